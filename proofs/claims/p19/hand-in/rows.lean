section
/-! walks over plain integers: least weight, then least length; a relaxing process settles them -/
section
/-- there is a walk of k edges from s to v, of weight c -/
def sp_wk (E : Nat → Nat → Prop) (w : Nat → Nat → Int) (s : Nat) : Nat → Nat → Int → Prop
  | 0, v, c => v = s ∧ c = 0
  | k + 1, v, c => ∃ (u : Nat) (c' : Int), sp_wk E w s k u c' ∧ E u v ∧ c = c' + w u v
/-- k and c are the best walk's, by weight and then by length -/
def sp_best (E : Nat → Nat → Prop) (w : Nat → Nat → Int) (s v k : Nat) (c : Int) : Prop :=
  sp_wk E w s k v c ∧ ∀ (k' : Nat) (c' : Int), sp_wk E w s k' v c' → c < c' ∨ (c = c' ∧ k ≤ k')
theorem sp_ws {E : Nat → Nat → Prop} {w : Nat → Nat → Int} {s k u v : Nat} {c : Int} (a : sp_wk E w s k u c) (e : E u v) : sp_wk E w s (k + 1) v (c + w u v) := ⟨u, c, a, e, rfl⟩
theorem sp_lb {E : Nat → Nat → Prop} {w : Nat → Nat → Int} {s : Nat} {Q : Nat → Prop} {f : Nat → Int} (hs : Q s) (hQ : ∀ u v, E u v → Q u → Q v ∧ f v ≤ f u + w u v) : ∀ (k v : Nat) (c : Int), sp_wk E w s k v c → Q v ∧ f v - f s ≤ c := by
  intro k
  induction k with
  | zero =>
    intro v c h
    have h' : v = s ∧ c = 0 := h
    rw [h'.1, h'.2]
    exact ⟨hs, by omega⟩
  | succ k ih =>
    intro v c h
    have h' : ∃ (u : Nat) (c' : Int), sp_wk E w s k u c' ∧ E u v ∧ c = c' + w u v := h
    obtain ⟨u, c', h1, h2, h3⟩ := h'
    obtain ⟨q1, q2⟩ := ih u c' h1
    obtain ⟨q3, q4⟩ := hQ u v h2 q1
    exact ⟨q3, by omega⟩
theorem sp_least (P : Nat → Prop) : ∀ k, P k → ∃ m, P m ∧ ∀ j, j < m → ¬ P j := by
  intro k
  induction k using Nat.strongRecOn with
  | ind k ih =>
    intro hk
    by_cases q : ∃ j, j < k ∧ P j
    · obtain ⟨j, hj, pj⟩ := q
      exact ih j hj pj
    · exact ⟨k, hk, fun j hj pj => q ⟨j, hj, pj⟩⟩
theorem sp_bestE {E : Nat → Nat → Prop} {w : Nat → Nat → Int} {s : Nat} {Q : Nat → Prop} {f : Nat → Int} (hs : Q s) (hQ : ∀ u v, E u v → Q u → Q v ∧ f v ≤ f u + w u v) {k v : Nat} {c : Int} (h : sp_wk E w s k v c) : ∃ (k0 : Nat) (c0 : Int), sp_best E w s v k0 c0 := by
  have z := sp_least (fun m => ∃ (k : Nat) (c : Int), sp_wk E w s k v c ∧ (c - (f v - f s)).toNat = m) (c - (f v - f s)).toNat ⟨k, c, h, rfl⟩
  obtain ⟨m, ⟨k1, c1, h1, e1⟩, hm⟩ := z
  have hm' : ∀ (k' : Nat) (c' : Int), sp_wk E w s k' v c' → ¬ (c' - (f v - f s)).toNat < m := fun k' c' h' q => hm _ q ⟨k', c', h', rfl⟩
  obtain ⟨k0, h0, hk⟩ := sp_least (fun k => sp_wk E w s k v c1) k1 h1
  refine ⟨k0, c1, h0, fun k' c' h' => ?_⟩
  have b1 := (sp_lb hs hQ k1 v c1 h1).2
  have b2 := (sp_lb hs hQ k' v c' h').2
  have q := hm' k' c' h'
  by_cases e : c1 = c'
  · subst e
    have q3 : ¬ k' < k0 := fun z => hk k' z h'
    exact Or.inr ⟨rfl, by omega⟩
  · exact Or.inl (by omega)
theorem sp_prev {E : Nat → Nat → Prop} {w : Nat → Nat → Int} {s v k : Nat} {c : Int} (h : sp_best E w s v (k + 1) c) : ∃ (u : Nat) (c' : Int), sp_best E w s u k c' ∧ E u v ∧ c = c' + w u v := by
  obtain ⟨h1, h2⟩ := h
  have h1' : ∃ (u : Nat) (c' : Int), sp_wk E w s k u c' ∧ E u v ∧ c = c' + w u v := h1
  obtain ⟨u, c', a, e, q⟩ := h1'
  refine ⟨u, c', ⟨a, fun k2 c2 hk => ?_⟩, e, q⟩
  have z := h2 (k2 + 1) (c2 + w u v) (sp_ws hk e)
  omega
theorem sp_uniq {E : Nat → Nat → Prop} {w : Nat → Nat → Int} {s v k k' : Nat} {c c' : Int} (h : sp_best E w s v k c) (h' : sp_best E w s v k' c') : k = k' ∧ c = c' := by
  have a := h.2 k' c' h'.1
  have b := h'.2 k c h.1
  omega
theorem sp_pig : ∀ (N k : Nat) (f : Nat → Nat), (∀ j, j ≤ k → f j < N) → (∀ i j, i ≤ k → j ≤ k → f i = f j → i = j) → k < N := by
  intro N
  induction N with
  | zero => intro k f h _; exact absurd (h 0 (Nat.zero_le _)) (Nat.not_lt_zero _)
  | succ N ih =>
    intro k f h hi
    cases k with
    | zero => omega
    | succ k =>
      have q : k < N := by
        refine ih k (fun j => if f j = N then f (k + 1) else f j) ?_ ?_
        · intro j hj
          have a := h j (by omega)
          have b := h (k + 1) (Nat.le_refl _)
          show (if f j = N then f (k + 1) else f j) < N
          by_cases e : f j = N
          · rw [if_pos e]
            have z : f (k + 1) ≠ N := fun z => by
              have := hi j (k + 1) (by omega) (Nat.le_refl _) (e.trans z.symm)
              omega
            omega
          · rw [if_neg e]; omega
        · intro i j hi' hj' e'
          have e : (if f i = N then f (k + 1) else f i) = (if f j = N then f (k + 1) else f j) := e'
          by_cases a : f i = N
          · by_cases b : f j = N
            · exact hi i j (by omega) (by omega) (a.trans b.symm)
            · rw [if_pos a, if_neg b] at e
              have := hi (k + 1) j (Nat.le_refl _) (by omega) e
              omega
          · by_cases b : f j = N
            · rw [if_neg a, if_pos b] at e
              have := hi i (k + 1) (by omega) (Nat.le_refl _) e
              omega
            · rw [if_neg a, if_neg b] at e
              exact hi i j (by omega) (by omega) e
      omega
theorem sp_chain {E : Nat → Nat → Prop} {w : Nat → Nat → Int} {s N : Nat} (hs : s < N) (hE : ∀ u v, E u v → u < N ∧ v < N) : ∀ (k v : Nat) (c : Int), sp_best E w s v k c → ∃ f : Nat → Nat, ∀ j, j ≤ k → f j < N ∧ ∃ c', sp_best E w s (f j) j c' := by
  intro k
  induction k with
  | zero =>
    intro v c h
    have e : v = s ∧ c = 0 := h.1
    refine ⟨fun _ => v, fun j hj => ?_⟩
    have j0 : j = 0 := by omega
    subst j0
    exact ⟨by show v < N; omega, c, h⟩
  | succ k ih =>
    intro v c h
    obtain ⟨u, c', hb, he, _⟩ := sp_prev h
    obtain ⟨f, hf⟩ := ih u c' hb
    refine ⟨fun j => if j = k + 1 then v else f j, fun j hj => ?_⟩
    show (if j = k + 1 then v else f j) < N ∧ ∃ c', sp_best E w s (if j = k + 1 then v else f j) j c'
    by_cases e : j = k + 1
    · rw [if_pos e, e]
      exact ⟨(hE u v he).2, c, h⟩
    · rw [if_neg e]
      exact hf j (by omega)
theorem sp_len {E : Nat → Nat → Prop} {w : Nat → Nat → Int} {s N : Nat} (hs : s < N) (hE : ∀ u v, E u v → u < N ∧ v < N) {k v : Nat} {c : Int} (h : sp_best E w s v k c) : k < N := by
  obtain ⟨f, hf⟩ := sp_chain hs hE k v c h
  refine sp_pig N k f (fun j hj => (hf j hj).1) (fun i j hi hj e => ?_)
  obtain ⟨_, c1, b1⟩ := hf i hi
  obtain ⟨_, c2, b2⟩ := hf j hj
  rw [e] at b1
  exact (sp_uniq b1 b2).1
/-- at time T the edge (u, v) betters v -/
def sp_fire (E : Nat → Nat → Prop) (w : Nat → Nat → Int) (R : Nat → Nat → Prop) (D : Nat → Nat → Int) (H : Nat → Nat → Nat) (T u v : Nat) : Prop :=
  E u v ∧ R T u ∧ (¬ R T v ∨ D T u + w u v < D T v ∨ (D T u + w u v = D T v ∧ H T u + 1 < H T v))
/-- from time T to T + 1 the edge (u, v) is relaxed -/
def sp_step (E : Nat → Nat → Prop) (w : Nat → Nat → Int) (R : Nat → Nat → Prop) (D : Nat → Nat → Int) (H : Nat → Nat → Nat) (T u v : Nat) : Prop :=
  (sp_fire E w R D H T u v ∧ R (T + 1) v ∧ D (T + 1) v = D T u + w u v ∧ H (T + 1) v = H T u + 1 ∧ ∀ x, x ≠ v → (R (T + 1) x ↔ R T x) ∧ D (T + 1) x = D T x ∧ H (T + 1) x = H T x)
  ∨ (¬ sp_fire E w R D H T u v ∧ ∀ x, (R (T + 1) x ↔ R T x) ∧ D (T + 1) x = D T x ∧ H (T + 1) x = H T x)
/-- the process: all slots of a square of 32, over and over, up to time M -/
def sp_all (E : Nat → Nat → Prop) (w : Nat → Nat → Int) (R : Nat → Nat → Prop) (D : Nat → Nat → Int) (H : Nat → Nat → Nat) (M : Nat) : Prop :=
  ∀ T, T < M → sp_step E w R D H T (T % 1024 / 32) (T % 1024 % 32)
theorem sp_sound {E : Nat → Nat → Prop} {w : Nat → Nat → Int} {R : Nat → Nat → Prop} {D : Nat → Nat → Int} {H : Nat → Nat → Nat} {s M : Nat} (h0 : ∀ x, R 0 x → x = s ∧ D 0 x = 0 ∧ H 0 x = 0) (hs : sp_all E w R D H M) : ∀ T, T ≤ M → ∀ x, R T x → sp_wk E w s (H T x) x (D T x) := by
  intro T
  induction T with
  | zero =>
    intro _ x hx
    obtain ⟨a, b, c⟩ := h0 x hx
    rw [b, c]
    exact ⟨a, rfl⟩
  | succ T ih =>
    intro hT x hx
    have ih' := ih (by omega)
    rcases hs T (by omega) with ⟨f, _, d, h, o⟩ | ⟨_, o⟩
    · by_cases e : x = T % 1024 % 32
      · subst e
        rw [d, h]
        exact sp_ws (ih' _ f.2.1) f.1
      · obtain ⟨a, b, c⟩ := o x e
        rw [b, c]
        exact ih' x (a.mp hx)
    · obtain ⟨a, b, c⟩ := o x
      rw [b, c]
      exact ih' x (a.mp hx)
theorem sp_mono1 {E : Nat → Nat → Prop} {w : Nat → Nat → Int} {R : Nat → Nat → Prop} {D : Nat → Nat → Int} {H : Nat → Nat → Nat} {T u v : Nat} (h : sp_step E w R D H T u v) {x : Nat} (hx : R T x) : R (T + 1) x ∧ (D (T + 1) x < D T x ∨ (D (T + 1) x = D T x ∧ H (T + 1) x ≤ H T x)) := by
  rcases h with ⟨f, r, d, hh, o⟩ | ⟨_, o⟩
  · by_cases e : x = v
    · subst e
      refine ⟨r, ?_⟩
      rcases f.2.2 with q | q | q
      · exact absurd hx q
      · exact Or.inl (by omega)
      · exact Or.inr (by omega)
    · obtain ⟨a, b, c⟩ := o x e
      exact ⟨a.mpr hx, Or.inr (by omega)⟩
  · obtain ⟨a, b, c⟩ := o x
    exact ⟨a.mpr hx, Or.inr (by omega)⟩
theorem sp_mono {E : Nat → Nat → Prop} {w : Nat → Nat → Int} {R : Nat → Nat → Prop} {D : Nat → Nat → Int} {H : Nat → Nat → Nat} {M : Nat} (hs : sp_all E w R D H M) {x T : Nat} (hx : R T x) : ∀ e, T + e ≤ M → R (T + e) x ∧ (D (T + e) x < D T x ∨ (D (T + e) x = D T x ∧ H (T + e) x ≤ H T x)) := by
  intro e
  induction e with
  | zero => intro _; exact ⟨hx, Or.inr ⟨rfl, Nat.le_refl _⟩⟩
  | succ e ih =>
    intro hM
    obtain ⟨a, b⟩ := ih (by omega)
    obtain ⟨c, d⟩ := sp_mono1 (hs (T + e) (by omega)) a
    show R (T + e + 1) x ∧ (D (T + e + 1) x < D T x ∨ (D (T + e + 1) x = D T x ∧ H (T + e + 1) x ≤ H T x))
    exact ⟨c, by omega⟩
theorem sp_fix {E : Nat → Nat → Prop} {w : Nat → Nat → Int} {R : Nat → Nat → Prop} {D : Nat → Nat → Int} {H : Nat → Nat → Nat} {s M : Nat} (h0 : ∀ x, R 0 x → x = s ∧ D 0 x = 0 ∧ H 0 x = 0) (hs : sp_all E w R D H M) {v k T : Nat} {c : Int} (hb : sp_best E w s v k c) (hT : T ≤ M) (hr : R T v) (hle : D T v < c ∨ (D T v = c ∧ H T v ≤ k)) : D T v = c ∧ H T v = k := by
  have z := hb.2 _ _ (sp_sound h0 hs T hT v hr)
  omega
theorem sp_settle {E : Nat → Nat → Prop} {w : Nat → Nat → Int} {R : Nat → Nat → Prop} {D : Nat → Nat → Int} {H : Nat → Nat → Nat} {s M N : Nat} (hN : N ≤ 32) (hE : ∀ u v, E u v → u < N ∧ v < N) (hr0 : R 0 s) (h0 : ∀ x, R 0 x → x = s ∧ D 0 x = 0 ∧ H 0 x = 0) (hs : sp_all E w R D H M) : ∀ (j k v : Nat) (c : Int), sp_best E w s v k c → k ≤ j → ∀ T, 1024 * j ≤ T → T ≤ M → R T v ∧ D T v = c ∧ H T v = k := by
  intro j
  induction j with
  | zero =>
    intro k v c hb hk T _ hT
    have hk0 : k = 0 := by omega
    subst hk0
    have e : v = s ∧ c = 0 := hb.1
    have q := sp_mono hs hr0 T (by omega)
    rw [Nat.zero_add] at q
    obtain ⟨_, z1, z2⟩ := h0 s hr0
    obtain ⟨q1, q2⟩ := q
    rw [← e.1] at q1 q2 z1 z2
    exact ⟨q1, sp_fix h0 hs hb hT q1 (by omega)⟩
  | succ j ih =>
    intro k v c hb hk T hT hM
    by_cases hkj : k ≤ j
    · exact ih k v c hb hkj T (by omega) hM
    · have hk1 : k = j + 1 := by omega
      subst hk1
      obtain ⟨u, c', hb', he, hc⟩ := sp_prev hb
      obtain ⟨hu, hv⟩ := hE u v he
      obtain ⟨T0, hT0⟩ : ∃ T0, T0 = 1024 * j + (32 * u + v) := ⟨_, rfl⟩
      obtain ⟨r1, d1, h1⟩ := ih j u c' hb' (Nat.le_refl _) T0 (by omega) (by omega)
      have st := hs T0 (by omega)
      have eu : T0 % 1024 / 32 = u := by omega
      have ev : T0 % 1024 % 32 = v := by omega
      rw [eu, ev] at st
      have q : R (T0 + 1) v ∧ (D (T0 + 1) v < c ∨ (D (T0 + 1) v = c ∧ H (T0 + 1) v ≤ j + 1)) := by
        rcases st with ⟨_, r, d, h, _⟩ | ⟨nf, o⟩
        · exact ⟨r, Or.inr (by omega)⟩
        · obtain ⟨a, b, e⟩ := o v
          have rv : R T0 v := Classical.byContradiction fun z => nf ⟨he, r1, Or.inl z⟩
          have n1 : ¬ (D T0 u + w u v < D T0 v) := fun z => nf ⟨he, r1, Or.inr (Or.inl z)⟩
          have n2 : ¬ (D T0 u + w u v = D T0 v ∧ H T0 u + 1 < H T0 v) := fun z => nf ⟨he, r1, Or.inr (Or.inr z)⟩
          exact ⟨a.mpr rv, by omega⟩
      have m := sp_mono hs q.1 (T - (T0 + 1)) (by omega)
      rw [show T0 + 1 + (T - (T0 + 1)) = T by omega] at m
      obtain ⟨m1, m2⟩ := m
      obtain ⟨_, q2⟩ := q
      exact ⟨m1, sp_fix h0 hs hb hM m1 (by omega)⟩
/-- with a potential, nothing is bettered from the round N - 1 on -/
theorem sp_quiet {E : Nat → Nat → Prop} {w : Nat → Nat → Int} {R : Nat → Nat → Prop} {D : Nat → Nat → Int} {H : Nat → Nat → Nat} {s M N : Nat} {Q : Nat → Prop} {f : Nat → Int} (hN : N ≤ 32) (hsN : s < N) (hE : ∀ u v, E u v → u < N ∧ v < N) (hr0 : R 0 s) (h0 : ∀ x, R 0 x → x = s ∧ D 0 x = 0 ∧ H 0 x = 0) (hs : sp_all E w R D H M) (hQs : Q s) (hQ : ∀ u v, E u v → Q u → Q v ∧ f v ≤ f u + w u v) {T u v : Nat} (h1 : 1024 * (N - 1) ≤ T) (h2 : T < M) : ¬ sp_fire E w R D H T u v := by
  intro hf
  obtain ⟨he, hr, hi⟩ := hf
  have wu := sp_sound h0 hs T (by omega) u hr
  have wv := sp_ws wu he
  obtain ⟨ku, cu, bu⟩ := sp_bestE hQs hQ wu
  obtain ⟨kv, cv, bv⟩ := sp_bestE hQs hQ wv
  have lu := sp_len hsN hE bu
  have lv := sp_len hsN hE bv
  obtain ⟨_, a, b⟩ := sp_settle hN hE hr0 h0 hs (N - 1) ku u cu bu (by omega) T h1 (by omega)
  obtain ⟨r, c, d⟩ := sp_settle hN hE hr0 h0 hs (N - 1) kv v cv bv (by omega) T h1 (by omega)
  have z := bv.2 _ _ wv
  rcases hi with i | i | i
  · exact i r
  · omega
  · omega
end
end
section
/-! the process over arrays as the reference keeps them (reach, dist, hops), over the graph as the class keeps it (2147483647: no edge) -/
section
theorem dq_add {a b : Int32} (h1 : -2147483648 ≤ a.toInt + b.toInt) (h2 : a.toInt + b.toInt < 2147483648) : (a + b).toInt = a.toInt + b.toInt := by
  rw [Int32.toInt_add]
  exact Int.bmod_eq_of_le (by omega) (by omega)
theorem dq_t0 : (0 : Int32).toInt = 0 := by decide
theorem dq_t1 : (1 : Int32).toInt = 1 := by decide
theorem dq_tM : (2147483647 : Int32).toInt = 2147483647 := by decide
/-- every present edge has an allowed weight -/
def dq_gr (W : Nat → Int32) : Prop := ∀ k, k < 1024 → W k = 2147483647 ∨ (-1000 ≤ (W k).toInt ∧ (W k).toInt ≤ 1000)
/-- reach, dist, hops -/
abbrev dq_S : Type := (Nat → Int32) × (Nat → Int32) × (Nat → Int32)
/-- the slot k betters its head -/
abbrev dq_imp (W : Nat → Int32) (N : Nat) (q : dq_S) (k : Nat) : Prop :=
  k / 32 < N ∧ k % 32 < N ∧ ¬ W k = 2147483647 ∧ ¬ q.1 (k / 32) = 0 ∧ (q.1 (k % 32) = 0 ∨ q.2.1 (k / 32) + W k < q.2.1 (k % 32) ∨ (q.2.1 (k / 32) + W k = q.2.1 (k % 32) ∧ q.2.2 (k / 32) + 1 < q.2.2 (k % 32)))
def dq_up (W : Nat → Int32) (q : dq_S) (k : Nat) : dq_S := (upd q.1 (k % 32) 1, upd q.2.1 (k % 32) (q.2.1 (k / 32) + W k), upd q.2.2 (k % 32) (q.2.2 (k / 32) + 1))
def dq_st (W : Nat → Int32) (N : Nat) (q : dq_S) (k : Nat) : dq_S := if dq_imp W N q k then dq_up W q k else q
def dq_0 (s : Nat) : dq_S := (upd (fun _ => 0) s 1, fun _ => 0, fun _ => 0)
/-- after T slots, of the rounds one behind another -/
def dq_seq (W : Nat → Int32) (N s : Nat) : Nat → dq_S
  | 0 => dq_0 s
  | T + 1 => dq_st W N (dq_seq W N s T) (T % 1024)
/-- 'changed' in round j, after k slots -/
def dq_ch (W : Nat → Int32) (N s j : Nat) : Nat → Int32
  | 0 => 0
  | k + 1 => if dq_imp W N (dq_seq W N s (1024 * j + k)) k then 1 else dq_ch W N s j k
theorem dq_st_t {W : Nat → Int32} {N k : Nat} {q : dq_S} (h : dq_imp W N q k) : dq_st W N q k = dq_up W q k := if_pos h
theorem dq_st_f {W : Nat → Int32} {N k : Nat} {q : dq_S} (h : ¬ dq_imp W N q k) : dq_st W N q k = q := if_neg h
theorem dq_u1 {W : Nat → Int32} {q : dq_S} {k : Nat} : (dq_up W q k).1 (k % 32) = 1 := pk_us
theorem dq_u2 {W : Nat → Int32} {q : dq_S} {k : Nat} : (dq_up W q k).2.1 (k % 32) = q.2.1 (k / 32) + W k := pk_us
theorem dq_u3 {W : Nat → Int32} {q : dq_S} {k : Nat} : (dq_up W q k).2.2 (k % 32) = q.2.2 (k / 32) + 1 := pk_us
theorem dq_n1 {W : Nat → Int32} {q : dq_S} {k i : Nat} (h : i ≠ k % 32) : (dq_up W q k).1 i = q.1 i := pk_un h
theorem dq_n2 {W : Nat → Int32} {q : dq_S} {k i : Nat} (h : i ≠ k % 32) : (dq_up W q k).2.1 i = q.2.1 i := pk_un h
theorem dq_n3 {W : Nat → Int32} {q : dq_S} {k i : Nat} (h : i ≠ k % 32) : (dq_up W q k).2.2 i = q.2.2 i := pk_un h
theorem dq_seqS {W : Nat → Int32} {N s j k : Nat} (hk : k < 1024) : dq_seq W N s (1024 * j + (k + 1)) = dq_st W N (dq_seq W N s (1024 * j + k)) k := by
  have e : dq_seq W N s (1024 * j + (k + 1)) = dq_st W N (dq_seq W N s (1024 * j + k)) ((1024 * j + k) % 1024) := rfl
  rw [e, show (1024 * j + k) % 1024 = k by omega]
/-- what is reached has a small distance and few hops -/
def dq_bd (T : Nat) (q : dq_S) : Prop := ∀ i, q.1 i = 0 ∨ (q.1 i = 1 ∧ -(1000 * (T : Int)) ≤ (q.2.1 i).toInt ∧ (q.2.1 i).toInt ≤ 1000 * (T : Int) ∧ 0 ≤ (q.2.2 i).toInt ∧ (q.2.2 i).toInt ≤ (T : Int))
theorem dq_bd0 (s : Nat) : dq_bd 0 (dq_0 s) := by
  intro i
  by_cases e : i = s
  · refine Or.inr ⟨if_pos e, ?_⟩
    show -(1000 * ((0 : Nat) : Int)) ≤ (0 : Int32).toInt ∧ (0 : Int32).toInt ≤ 1000 * ((0 : Nat) : Int) ∧ 0 ≤ (0 : Int32).toInt ∧ (0 : Int32).toInt ≤ ((0 : Nat) : Int)
    rw [dq_t0]
    omega
  · exact Or.inl (if_neg e)
theorem dq_bdm {T : Nat} {q : dq_S} (h : dq_bd T q) : dq_bd (T + 1) q := by
  intro i
  rcases h i with z | ⟨z0, z1, z2, z3, z4⟩
  · exact Or.inl z
  · exact Or.inr ⟨z0, by omega, by omega, by omega, by omega⟩
/-- the sums do not wrap -/
theorem dq_sums {W : Nat → Int32} {T k u : Nat} {q : dq_S} (hW : dq_gr W) (hk : k < 1024) (hT : T ≤ 32768) (h : dq_bd T q) (h3 : ¬ W k = 2147483647) (h4 : ¬ q.1 u = 0) : (q.2.1 u + W k).toInt = (q.2.1 u).toInt + (W k).toInt ∧ (q.2.2 u + 1).toInt = (q.2.2 u).toInt + 1 ∧ -(1000 * (T : Int)) ≤ (q.2.1 u).toInt ∧ (q.2.1 u).toInt ≤ 1000 * (T : Int) ∧ 0 ≤ (q.2.2 u).toInt ∧ (q.2.2 u).toInt ≤ (T : Int) ∧ -1000 ≤ (W k).toInt ∧ (W k).toInt ≤ 1000 := by
  obtain ⟨_, u1, u2, u3, u4⟩ := (h u).resolve_left h4
  obtain ⟨w1, w2⟩ := (hW k hk).resolve_left h3
  have a1 := dq_add (a := q.2.1 u) (b := W k) (by omega) (by omega)
  have a2 := dq_add (a := q.2.2 u) (b := 1) (by rw [dq_t1]; omega) (by rw [dq_t1]; omega)
  rw [dq_t1] at a2
  exact ⟨a1, a2, u1, u2, u3, u4, w1, w2⟩
theorem dq_bdS {W : Nat → Int32} {N T k : Nat} {q : dq_S} (hW : dq_gr W) (hk : k < 1024) (hT : T ≤ 32768) (h : dq_bd T q) : dq_bd (T + 1) (dq_st W N q k) := by
  by_cases c : dq_imp W N q k
  · rw [dq_st_t c]
    obtain ⟨a1, a2, u1, u2, u3, u4, w1, w2⟩ := dq_sums hW hk hT h c.2.2.1 c.2.2.2.1
    intro i
    by_cases e : i = k % 32
    · rw [e, dq_u1, dq_u2, dq_u3, a1, a2]
      exact Or.inr ⟨rfl, by omega, by omega, by omega, by omega⟩
    · rw [dq_n1 e, dq_n2 e, dq_n3 e]
      exact dq_bdm h i
  · rw [dq_st_f c]
    exact dq_bdm h
theorem dq_bdT {W : Nat → Int32} {N s : Nat} (hW : dq_gr W) : ∀ T, T ≤ 32768 → dq_bd T (dq_seq W N s T) := by
  intro T
  induction T with
  | zero => intro _; exact dq_bd0 s
  | succ T ih => intro h; exact dq_bdS hW (Nat.mod_lt _ (by decide)) (by omega) (ih (by omega))
/-- beyond the 32 places nothing is stored -/
theorem dq_hi {W : Nat → Int32} {N s : Nat} (hs : s < 32) : ∀ T i, 32 ≤ i → (dq_seq W N s T).1 i = 0 ∧ (dq_seq W N s T).2.1 i = 0 ∧ (dq_seq W N s T).2.2 i = 0 := by
  intro T
  induction T with
  | zero => intro i hi; exact ⟨if_neg (by omega), rfl, rfl⟩
  | succ T ih =>
    intro i hi
    have e : dq_seq W N s (T + 1) = dq_st W N (dq_seq W N s T) (T % 1024) := rfl
    rw [e]
    by_cases c : dq_imp W N (dq_seq W N s T) (T % 1024)
    · rw [dq_st_t c, dq_n1 (by omega), dq_n2 (by omega), dq_n3 (by omega)]
      exact ih i hi
    · rw [dq_st_f c]
      exact ih i hi
/-- the process, read in integers -/
def dq_E (W : Nat → Int32) (N u v : Nat) : Prop := u < N ∧ v < N ∧ ¬ W (32 * u + v) = 2147483647
def dq_w (W : Nat → Int32) (u v : Nat) : Int := (W (32 * u + v)).toInt
def dq_R (W : Nat → Int32) (N s T v : Nat) : Prop := ¬ (dq_seq W N s T).1 v = 0
def dq_D (W : Nat → Int32) (N s T v : Nat) : Int := ((dq_seq W N s T).2.1 v).toInt
def dq_H (W : Nat → Int32) (N s T v : Nat) : Nat := ((dq_seq W N s T).2.2 v).toInt.toNat
theorem dq_fire {W : Nat → Int32} {N s T : Nat} (hW : dq_gr W) (hT : T < 32768) : dq_imp W N (dq_seq W N s T) (T % 1024) ↔ sp_fire (dq_E W N) (dq_w W) (dq_R W N s) (dq_D W N s) (dq_H W N s) T (T % 1024 / 32) (T % 1024 % 32) := by
  have hb := dq_bdT (N := N) (s := s) hW T (by omega)
  have hk : T % 1024 < 1024 := Nat.mod_lt _ (by decide)
  unfold sp_fire dq_E dq_w dq_R dq_D dq_H
  rw [Nat.div_add_mod]
  generalize dq_seq W N s T = q at hb ⊢
  generalize T % 1024 = k at hk ⊢
  constructor
  · intro c
    obtain ⟨h1, h2, h3, h4, h5⟩ := c
    refine ⟨⟨h1, h2, h3⟩, h4, ?_⟩
    obtain ⟨a1, a2, u1, u2, u3, u4, w1, w2⟩ := dq_sums hW hk (by omega) hb h3 h4
    by_cases v0 : q.1 (k % 32) = 0
    · exact Or.inl (fun n => n v0)
    · obtain ⟨_, v1, v2, v3, v4⟩ := (hb (k % 32)).resolve_left v0
      rcases h5 with z | z | ⟨z1, z2⟩
      · exact absurd z v0
      · rw [Int32.lt_iff_toInt_lt, a1] at z
        exact Or.inr (Or.inl z)
      · rw [Int32.lt_iff_toInt_lt, a2] at z2
        have z3 := congrArg Int32.toInt z1
        rw [a1] at z3
        exact Or.inr (Or.inr ⟨z3, by omega⟩)
  · intro c
    obtain ⟨⟨h1, h2, h3⟩, h4, h5⟩ := c
    refine ⟨h1, h2, h3, h4, ?_⟩
    obtain ⟨a1, a2, u1, u2, u3, u4, w1, w2⟩ := dq_sums hW hk (by omega) hb h3 h4
    by_cases v0 : q.1 (k % 32) = 0
    · exact Or.inl v0
    · obtain ⟨_, v1, v2, v3, v4⟩ := (hb (k % 32)).resolve_left v0
      rcases h5 with z | z | ⟨z1, z2⟩
      · exact absurd v0 z
      · refine Or.inr (Or.inl ?_)
        rw [Int32.lt_iff_toInt_lt, a1]
        exact z
      · refine Or.inr (Or.inr ⟨Int32.toInt_inj.mp (by rw [a1]; exact z1), ?_⟩)
        rw [Int32.lt_iff_toInt_lt, a2]
        omega
theorem dq_step {W : Nat → Int32} {N s : Nat} (hW : dq_gr W) : sp_all (dq_E W N) (dq_w W) (dq_R W N s) (dq_D W N s) (dq_H W N s) 32768 := by
  intro T hT
  have hf := dq_fire (N := N) (s := s) hW hT
  have hb := dq_bdT (N := N) (s := s) hW T (by omega)
  have hk : T % 1024 < 1024 := Nat.mod_lt _ (by decide)
  have e : dq_seq W N s (T + 1) = dq_st W N (dq_seq W N s T) (T % 1024) := rfl
  by_cases c : dq_imp W N (dq_seq W N s T) (T % 1024)
  · rw [dq_st_t c] at e
    obtain ⟨a1, a2, u1, u2, u3, u4, w1, w2⟩ := dq_sums hW hk (by omega) hb c.2.2.1 c.2.2.2.1
    refine Or.inl ⟨hf.mp c, ?_, ?_, ?_, fun x hx => ⟨?_, ?_, ?_⟩⟩
    · unfold dq_R
      rw [e, dq_u1]
      decide
    · unfold dq_D dq_w
      rw [e, dq_u2, a1, Nat.div_add_mod]
    · unfold dq_H
      rw [e, dq_u3, a2]
      omega
    · unfold dq_R
      rw [e, dq_n1 hx]
    · unfold dq_D
      rw [e, dq_n2 hx]
    · unfold dq_H
      rw [e, dq_n3 hx]
  · rw [dq_st_f c] at e
    refine Or.inr ⟨fun z => c (hf.mpr z), fun x => ⟨?_, ?_, ?_⟩⟩
    · unfold dq_R
      rw [e]
    · unfold dq_D
      rw [e]
    · unfold dq_H
      rw [e]
theorem dq_R0 {W : Nat → Int32} {N s : Nat} : dq_R W N s 0 s := by
  unfold dq_R
  show ¬ upd (fun _ => 0) s 1 s = 0
  rw [pk_us]
  decide
theorem dq_D0 {W : Nat → Int32} {N s : Nat} : ∀ x, dq_R W N s 0 x → x = s ∧ dq_D W N s 0 x = 0 ∧ dq_H W N s 0 x = 0 := by
  intro x hx
  refine ⟨Classical.byContradiction fun z => hx (if_neg z), dq_t0, ?_⟩
  show (0 : Int32).toInt.toNat = 0
  rw [dq_t0]
  rfl
theorem dq_ch01 {W : Nat → Int32} {N s j : Nat} : ∀ k, dq_ch W N s j k = 0 ∨ dq_ch W N s j k = 1 := by
  intro k
  induction k with
  | zero => exact Or.inl rfl
  | succ k ih =>
    show (if dq_imp W N (dq_seq W N s (1024 * j + k)) k then (1 : Int32) else dq_ch W N s j k) = 0 ∨ (if dq_imp W N (dq_seq W N s (1024 * j + k)) k then (1 : Int32) else dq_ch W N s j k) = 1
    by_cases c : dq_imp W N (dq_seq W N s (1024 * j + k)) k
    · rw [if_pos c]; exact Or.inr rfl
    · rw [if_neg c]; exact ih
theorem dq_chT {W : Nat → Int32} {N s j k : Nat} (c : dq_imp W N (dq_seq W N s (1024 * j + k)) k) : dq_ch W N s j (k + 1) = 1 := if_pos c
theorem dq_chF {W : Nat → Int32} {N s j k : Nat} (c : ¬ dq_imp W N (dq_seq W N s (1024 * j + k)) k) : dq_ch W N s j (k + 1) = dq_ch W N s j k := if_neg c
theorem dq_ch0 {W : Nat → Int32} {N s j : Nat} : ∀ k, dq_ch W N s j k = 0 ↔ ∀ i, i < k → ¬ dq_imp W N (dq_seq W N s (1024 * j + i)) i := by
  intro k
  induction k with
  | zero => exact ⟨fun _ i hi => absurd hi (Nat.not_lt_zero _), fun _ => rfl⟩
  | succ k ih =>
    by_cases c : dq_imp W N (dq_seq W N s (1024 * j + k)) k
    · rw [dq_chT c]
      exact ⟨fun h => absurd h (by decide), fun h => absurd c (h k (Nat.lt_succ_self k))⟩
    · rw [dq_chF c, ih]
      constructor
      · intro h i hi
        by_cases e : i = k
        · rw [e]; exact c
        · exact h i (by omega)
      · intro h i hi
        exact h i (by omega)
/-- a quiet round stays quiet -/
theorem dq_const {W : Nat → Int32} {N s j : Nat} (h : dq_ch W N s j 1024 = 0) : (∀ i, i < 1024 → ¬ dq_imp W N (dq_seq W N s (1024 * j)) i) ∧ ∀ e, dq_seq W N s (1024 * j + e) = dq_seq W N s (1024 * j) := by
  have h' := (dq_ch0 1024).mp h
  have a : ∀ k, k ≤ 1024 → dq_seq W N s (1024 * j + k) = dq_seq W N s (1024 * j) := by
    intro k
    induction k with
    | zero => intro _; rfl
    | succ k ih =>
      intro hk
      rw [dq_seqS (by omega), dq_st_f (h' k (by omega))]
      exact ih (by omega)
  have b : ∀ i, i < 1024 → ¬ dq_imp W N (dq_seq W N s (1024 * j)) i := by
    intro i hi
    have z := h' i hi
    rw [a i (by omega)] at z
    exact z
  refine ⟨b, fun e => ?_⟩
  induction e with
  | zero => rfl
  | succ e ih =>
    have z : dq_seq W N s (1024 * j + (e + 1)) = dq_st W N (dq_seq W N s (1024 * j + e)) ((1024 * j + e) % 1024) := rfl
    rw [z, ih, dq_st_f (b _ (Nat.mod_lt _ (by decide)))]
theorem dq_later {W : Nat → Int32} {N s j j' : Nat} (h : dq_ch W N s j 1024 = 0) (hj : j ≤ j') : dq_seq W N s (1024 * j') = dq_seq W N s (1024 * j) ∧ dq_ch W N s j' 1024 = 0 := by
  obtain ⟨b, a⟩ := dq_const h
  have e : ∀ k, dq_seq W N s (1024 * j' + k) = dq_seq W N s (1024 * j) := by
    intro k
    have z := a (1024 * (j' - j) + k)
    rw [show 1024 * j + (1024 * (j' - j) + k) = 1024 * j' + k by omega] at z
    exact z
  refine ⟨e 0, (dq_ch0 1024).mpr fun i hi => ?_⟩
  rw [e i]
  exact b i hi
/-- a potential: no negative cycle can be reached -/
def dq_ok (W : Nat → Int32) (N s : Nat) : Prop := ∃ (Q : Nat → Prop) (f : Nat → Int), Q s ∧ ∀ u v, dq_E W N u v → Q u → Q v ∧ f v ≤ f u + dq_w W u v
theorem dq_okq {W : Nat → Int32} {N s : Nat} (hW : dq_gr W) (hN : N ≤ 32) (hs : s < N) (h : dq_ok W N s) : dq_ch W N s (N - 1) 1024 = 0 := by
  obtain ⟨Q, f, q1, q2⟩ := h
  refine (dq_ch0 1024).mpr fun i hi => ?_
  have hT : 1024 * (N - 1) + i < 32768 := by omega
  have z := dq_fire (N := N) (s := s) hW hT
  rw [show (1024 * (N - 1) + i) % 1024 = i by omega] at z
  intro c
  exact sp_quiet hN hs (fun u v e => ⟨e.1, e.2.1⟩) dq_R0 dq_D0 (dq_step hW) q1 q2 (by omega) hT (z.mp c)
theorem dq_qok {W : Nat → Int32} {N s : Nat} (hW : dq_gr W) (hN : N ≤ 32) (hs : s < N) (h : dq_ch W N s (N - 1) 1024 = 0) : dq_ok W N s := by
  obtain ⟨_, a⟩ := dq_const h
  have h' := (dq_ch0 1024).mp h
  have hm := sp_mono (dq_step (N := N) (s := s) hW) (dq_R0 (W := W) (N := N) (s := s)) (1024 * (N - 1)) (by omega)
  rw [Nat.zero_add] at hm
  refine ⟨dq_R W N s (1024 * (N - 1)), dq_D W N s (1024 * (N - 1)), hm.1, fun u v he hu => ?_⟩
  obtain ⟨e1, e2, e3⟩ := he
  have hT : 1024 * (N - 1) + (32 * u + v) < 32768 := by omega
  have z := dq_fire (N := N) (s := s) hW hT
  rw [show (1024 * (N - 1) + (32 * u + v)) % 1024 = 32 * u + v by omega, show (32 * u + v) / 32 = u by omega, show (32 * u + v) % 32 = v by omega] at z
  have nf := fun y => h' (32 * u + v) (by omega) (z.mpr y)
  have er : ∀ x, dq_R W N s (1024 * (N - 1) + (32 * u + v)) x ↔ dq_R W N s (1024 * (N - 1)) x := fun x => by
    unfold dq_R
    rw [a]
  have ed : ∀ x, dq_D W N s (1024 * (N - 1) + (32 * u + v)) x = dq_D W N s (1024 * (N - 1)) x := fun x => by
    unfold dq_D
    rw [a]
  have hu' := (er u).mpr hu
  constructor
  · exact (er v).mp (Classical.byContradiction fun y => nf ⟨⟨e1, e2, e3⟩, hu', Or.inl y⟩)
  · rw [← ed u, ← ed v]
    exact Int.not_lt.mp fun y => nf ⟨⟨e1, e2, e3⟩, hu', Or.inr (Or.inl y)⟩
theorem dq_okS {W W' : Nat → Int32} {N s : Nat} (hN : N ≤ 32) (hW : ∀ k, k < 1024 → ¬ W' k = 2147483647 → W' k = W k) (h : dq_ok W N s) : dq_ok W' N s := by
  obtain ⟨Q, f, q1, q2⟩ := h
  refine ⟨Q, f, q1, fun u v e hu => ?_⟩
  obtain ⟨e1, e2, e3⟩ := e
  have z := hW (32 * u + v) (by omega) e3
  have y := q2 u v ⟨e1, e2, by rw [← z]; exact e3⟩ hu
  unfold dq_w at y ⊢
  rw [z]
  exact y
theorem dq_ok0 {W : Nat → Int32} {N s : Nat} (hN : N ≤ 32) (hW : ∀ k, k < 1024 → W k = 2147483647) : dq_ok W N s :=
  ⟨fun _ => True, fun _ => 0, trivial, fun u v e _ => absurd (hW (32 * u + v) (by have := e.1; have := e.2.1; omega)) e.2.2⟩
end
end
section
section
variable {N s : Nat} {gs gm gc : Int32} {W pr wt d h r : Nat → Int32}
theorem yn_10 : ¬ (1 : Int32) = 0 := by decide
theorem yn_nb {x : Int32} (h : x = 0 ∨ x = 1) : narrow .boolean (.int x) = .int x := by
  rcases h with e | e
  · rw [e]; rfl
  · rw [e]; rfl
end
end
section
section
variable {N s : Nat} {fm fs fe fr : Int32} {W ds ho pa tD tH : Nat → Int32}
/-- the class's distances and hops a, b stand for the state q, on the places below N -/
def xe_enc (N : Nat) (q : dq_S) (a b : Nat → Int32) : Prop := ∀ i, i < N → (q.1 i = 0 ∧ a i = 2147483647 ∧ b i = -1) ∨ (q.1 i = 1 ∧ a i = q.2.1 i ∧ b i = q.2.2 i)
theorem xe_0 {a b : Nat → Int32} (h : ∀ i, i < N → a i = 2147483647 ∧ b i = -1) : xe_enc N (dq_0 s) (upd a s 0) (upd b s 0) := by
  intro i hi
  by_cases e : i = s
  · rw [e, pk_us, pk_us]
    exact Or.inr ⟨if_pos rfl, rfl, rfl⟩
  · rw [pk_un e, pk_un e]
    exact Or.inl ⟨if_neg e, h i hi⟩
theorem xe_up {q : dq_S} {k : Nat} {a b : Nat → Int32} (h : xe_enc N q a b) : xe_enc N (dq_up W q k) (upd a (k % 32) (q.2.1 (k / 32) + W k)) (upd b (k % 32) (q.2.2 (k / 32) + 1)) := by
  intro i hi
  by_cases e : i = k % 32
  · rw [e]
    exact Or.inr ⟨dq_u1, pk_us.trans dq_u2.symm, pk_us.trans dq_u3.symm⟩
  · rw [pk_un e, pk_un e, dq_n1 e, dq_n2 e, dq_n3 e]
    exact h i hi
/-- reached is not 2147483647 -/
theorem xe_ne {T i : Nat} {q : dq_S} (hT : T ≤ 32768) (hb : dq_bd T q) (h : q.1 i = 1) : ¬ q.2.1 i = 2147483647 := by
  intro e
  rcases hb i with z | ⟨_, z1, z2, _, _⟩
  · rw [h] at z
    exact yn_10 z
  · rw [e, dq_tM] at z2
    omega
theorem xn_slot {u v : Nat} : nI u * 32 + nI v = nI (32 * u + v) := by
  have e : nI u * 32 = nI (u * 32) := pk_mul u 32
  rw [e, nI_add, Nat.mul_comm]
theorem xs_slot {post : Int32 → Prop} {u v : Nat} (h : post (nI (32 * u + v))) : wpX_slotOf post () (nI u) (nI v) := by
  unfold wpX_slotOf
  rw [xn_slot]
  exact h
theorem xr_relax {post : Int32 → St2 → Prop} {T u v k : Nat} {q : dq_S} (hN : N ≤ 32) (hk : k < 1024) (eu : k / 32 = u) (ev : k % 32 = v) (hu : u < N) (hv : v < N) (hW : dq_gr W) (hT : T ≤ 32767) (hb : dq_bd T q) (he : xe_enc N q tD tH) (hw : ¬ W k = 2147483647) (hr : q.1 u = 1)
    (hF : ¬ dq_imp W N q k → post 0 (nI N, fm, fs, fe, fr, W, ds, ho, pa, tD, tH))
    (hI : dq_imp W N q k → ∀ a b : Nat → Int32, xe_enc N (dq_up W q k) a b → post 1 (nI N, fm, fs, fe, fr, W, ds, ho, pa, a, b)) :
    wpX_relax post (nI N, fm, fs, fe, fr, W, ds, ho, pa, tD, tH) (nI u) (nI v) (W k) := by
  have cu : (nI u).toNatClampNeg = u := nI_clamp (by omega)
  have cv : (nI v).toNatClampNeg = v := nI_clamp (by omega)
  have vu : vp_in (nI u) 32 := vp_in_nI (by omega) (by decide)
  have vv : vp_in (nI v) 32 := vp_in_nI (by omega) (by decide)
  have hr0 : ¬ q.1 u = 0 := by rw [hr]; exact yn_10
  obtain ⟨_, du, hu'⟩ := (he u hu).resolve_left (fun z => hr0 z.1)
  obtain ⟨a1, a2, u1, u2, u3, u4, w1, w2⟩ := dq_sums hW hk (by omega) hb hw hr0
  have hi : (q.1 v = 0 ∨ q.2.1 u + W k < q.2.1 v ∨ (q.2.1 u + W k = q.2.1 v ∧ q.2.2 u + 1 < q.2.2 v)) → dq_imp W N q k := fun x => by
    refine ⟨by omega, by omega, hw, ?_, ?_⟩
    · rw [eu]; exact hr0
    · rw [eu, ev]; exact x
  have hx : dq_imp W N q k → (q.1 v = 0 ∨ q.2.1 u + W k < q.2.1 v ∨ (q.2.1 u + W k = q.2.1 v ∧ q.2.2 u + 1 < q.2.2 v)) := fun c => by
    have c5 := c.2.2.2.2
    rw [eu, ev] at c5
    exact c5
  have h55 : dq_imp W N q k → wX_relax_55 post (nI v) (q.2.1 u + W k) (q.2.2 u + 1) (nI N) fm fs fe fr W ds ho pa tD tH := fun c => by
    have z := hI c _ _ (xe_up (k := k) he)
    rw [eu, ev] at z
    exact ⟨vv, nm_r (show upd tD (nI v).toNatClampNeg (q.2.1 u + W k) = upd tD v (q.2.1 u + W k) by rw [cv]) ⟨vv, nm_r (show upd tH (nI v).toNatClampNeg (q.2.2 u + 1) = upd tH v (q.2.2 u + 1) by rw [cv]) z⟩⟩
  refine ⟨vu, nm_r (show tD (nI u).toNatClampNeg + W k = q.2.1 u + W k by rw [cu, du]) ⟨vu, nm_r (show tH (nI u).toNatClampNeg + 1 = q.2.2 u + 1 by rw [cu, hu']) ⟨vv, ?_⟩⟩⟩
  rcases he v hv with ⟨r0, dv, hv'⟩ | ⟨r1, dv, hv'⟩
  · have n1 : ¬ (2147483647 : Int32) < q.2.1 u + W k := by
      rw [Int32.lt_iff_toInt_lt, a1, dq_tM]; omega
    have n2 : ¬ q.2.1 u + W k = 2147483647 := fun z => by
      have z' := congrArg Int32.toInt z
      rw [a1, dq_tM] at z'
      omega
    exact br_f (by rw [cv, dv]; exact n1) ⟨vv, br_f (by rw [cv, dv]; exact n2) (h55 (hi (Or.inl r0)))⟩
  · have r0 : ¬ q.1 v = 0 := by rw [r1]; exact yn_10
    by_cases b1 : q.2.1 v < q.2.1 u + W k
    · refine br_t (by rw [cv, dv]; exact b1) (hF fun c => ?_)
      rw [Int32.lt_iff_toInt_lt] at b1
      rcases hx c with z | z | z
      · exact r0 z
      · rw [Int32.lt_iff_toInt_lt] at z
        omega
      · rw [z.1] at b1
        omega
    · refine br_f (by rw [cv, dv]; exact b1) ⟨vv, ?_⟩
      by_cases b2 : q.2.1 u + W k = q.2.1 v
      · refine br_t (by rw [cv, dv]; exact b2) ⟨vv, ?_⟩
        by_cases b3 : q.2.2 u + 1 < q.2.2 v
        · exact br_t (by rw [cv, hv']; exact b3) (h55 (hi (Or.inr (Or.inr ⟨b2, b3⟩))))
        · refine br_f (by rw [cv, hv']; exact b3) (hF fun c => ?_)
          rcases hx c with z | z | z
          · exact r0 z
          · rw [Int32.lt_iff_toInt_lt, b2] at z
            omega
          · exact b3 z.2
      · refine br_f (by rw [cv, dv]; exact b2) (h55 (hi (Or.inr (Or.inl ?_))))
        rw [Int32.lt_iff_toInt_lt] at b1 ⊢
        have b4 : ¬ (q.2.1 u + W k).toInt = (q.2.1 v).toInt := fun z => b2 (Int32.toInt_inj.mp z)
        omega
theorem xr_step {post : Int32 → St2 → Prop} {J4 : Int32 → Int32 → Int32 → Int32 → Int32 → Int32 → Int32 → (Nat → Int32) → (Nat → Int32) → (Nat → Int32) → (Nat → Int32) → (Nat → Int32) → (Nat → Int32) → Prop} {x1 : Int32} {n T u v : Nat} {q : dq_S} (hN : N ≤ 32) (hu : u < N) (hv : v < N) (hW : dq_gr W) (hT : T ≤ 32767) (hb : dq_bd T q) (he : xe_enc N q tD tH)
    (hF : ¬ dq_imp W N q (32 * u + v) → wX_relaxAll_14 post J4 (nI u) n x1 (nI (v + 1)) (nI N) fm fs fe fr W ds ho pa tD tH)
    (hI : dq_imp W N q (32 * u + v) → ∀ a b : Nat → Int32, xe_enc N (dq_up W q (32 * u + v)) a b → wX_relaxAll_14 post J4 (nI u) n 1 (nI (v + 1)) (nI N) fm fs fe fr W ds ho pa a b) :
    wX_relaxAll_14 post J4 (nI u) (n + 1) x1 (nI v) (nI N) fm fs fe fr W ds ho pa tD tH := by
  have cu : (nI u).toNatClampNeg = u := nI_clamp (by omega)
  have ck : (nI (32 * u + v)).toNatClampNeg = 32 * u + v := nI_clamp (by omega)
  have eu : (32 * u + v) / 32 = u := by omega
  have ev : (32 * u + v) % 32 = v := by omega
  have hk : 32 * u + v < 1024 := by omega
  refine br_f (nI_ge hv (by omega)) (xs_slot ⟨vp_in_nI hk (by decide), nm_r (show W (nI (32 * u + v)).toNatClampNeg = W (32 * u + v) by rw [ck]) ?_⟩)
  by_cases c3 : W (32 * u + v) = 2147483647
  · exact br_t c3 (nm_r (nI_1 v) (hF fun c => c.2.2.1 c3))
  refine br_f c3 ⟨vp_in_nI (by omega) (by decide), ?_⟩
  rcases he u hu with ⟨r0, du, hu'⟩ | ⟨r1, du, hu'⟩
  · refine br_t (by rw [cu]; exact du) (nm_r (nI_1 v) (hF fun c => ?_))
    have c4 := c.2.2.2.1
    rw [eu] at c4
    exact c4 r0
  · refine br_f (by rw [cu, du]; exact xe_ne (by omega) hb r1) ?_
    refine xr_relax hN hk eu ev hu hv hW hT hb he c3 r1 (fun c => ?_) (fun c a b z => ?_)
    · exact br_t rfl (nm_r (nI_1 v) (hF c))
    · exact br_f yn_10 (nm_r (nI_1 v) (hI c a b z))
/-- the slots beyond the square do nothing -/
theorem xq_skip {j k : Nat} : ∀ e, k + e ≤ 1024 → (∀ i, k ≤ i → i < k + e → N ≤ i / 32 ∨ N ≤ i % 32) → dq_seq W N s (1024 * j + (k + e)) = dq_seq W N s (1024 * j + k) ∧ dq_ch W N s j (k + e) = dq_ch W N s j k := by
  intro e
  induction e with
  | zero => intro _ _; exact ⟨rfl, rfl⟩
  | succ e ih =>
    intro h1 h2
    obtain ⟨a, b⟩ := ih (by omega) (fun i hi hi2 => h2 i hi (by omega))
    have c : ¬ dq_imp W N (dq_seq W N s (1024 * j + (k + e))) (k + e) := fun c => by
      have z1 := c.1
      have z2 := c.2.1
      have z3 := h2 (k + e) (by omega) (by omega)
      omega
    refine ⟨?_, ?_⟩
    · show dq_seq W N s (1024 * j + (k + e + 1)) = _
      rw [dq_seqS (by omega), dq_st_f c, a]
    · show dq_ch W N s j (k + e + 1) = _
      rw [dq_chF c, b]
theorem xr_14 {post : Int32 → St2 → Prop} {J4 : Int32 → Int32 → Int32 → Int32 → Int32 → Int32 → Int32 → (Nat → Int32) → (Nat → Int32) → (Nat → Int32) → (Nat → Int32) → (Nat → Int32) → (Nat → Int32) → Prop} {j u : Nat} (hN : N ≤ 32) (hj : j < N) (hu : u < N) (hW : dq_gr W)
    (hJ : ∀ a b : Nat → Int32, xe_enc N (dq_seq W N s (1024 * j + 32 * (u + 1))) a b → J4 (dq_ch W N s j (32 * (u + 1))) (nI (u + 1)) (nI N) fm fs fe fr W ds ho pa a b) :
    ∀ e v, v + e = N → ∀ n, e < n → ∀ tD tH : Nat → Int32, xe_enc N (dq_seq W N s (1024 * j + (32 * u + v))) tD tH → wX_relaxAll_14 post J4 (nI u) n (dq_ch W N s j (32 * u + v)) (nI v) (nI N) fm fs fe fr W ds ho pa tD tH := by
  intro e
  induction e with
  | zero =>
    intro v hv n hn tD tH he
    obtain ⟨n', rfl⟩ : ∃ n', n = n' + 1 := ⟨n - 1, by omega⟩
    have hv2 : v = N := by omega
    subst hv2
    obtain ⟨a, b⟩ := xq_skip (W := W) (N := v) (s := s) (j := j) (k := 32 * u + v) (32 - v) (by omega) (fun i h1 h2 => by omega)
    rw [show 32 * u + v + (32 - v) = 32 * (u + 1) by omega] at a b
    rw [← a] at he
    rw [← b]
    exact br_t (nI_le (Nat.le_refl _) (by omega)) (nm_r (nI_1 u) (hJ tD tH he))
  | succ e ih =>
    intro v hv n hn tD tH he
    obtain ⟨n', rfl⟩ : ∃ n', n = n' + 1 := ⟨n - 1, by omega⟩
    have z := ih (v + 1) (by omega) n' (by omega)
    rw [show 32 * u + (v + 1) = 32 * u + v + 1 by omega, dq_seqS (by omega)] at z
    refine xr_step (T := 1024 * j + (32 * u + v)) hN hu (by omega) hW (by omega) (dq_bdT hW _ (by omega)) he (fun c => ?_) (fun c a b y => ?_)
    · rw [dq_chF c, dq_st_f c] at z
      exact z tD tH he
    · rw [dq_chT c, dq_st_t c] at z
      exact z a b y
theorem xr_4 {post : Int32 → St2 → Prop} {j : Nat} (hN : N ≤ 32) (hj : j < N) (hW : dq_gr W)
    (hp : ∀ a b : Nat → Int32, xe_enc N (dq_seq W N s (1024 * (j + 1))) a b → post (dq_ch W N s j 1024) (nI N, fm, fs, fe, fr, W, ds, ho, pa, a, b)) :
    ∀ e u, u + e = N → ∀ n, e < n → ∀ tD tH : Nat → Int32, xe_enc N (dq_seq W N s (1024 * j + 32 * u)) tD tH → wX_relaxAll_4 post n (dq_ch W N s j (32 * u)) (nI u) (nI N) fm fs fe fr W ds ho pa tD tH := by
  intro e
  induction e with
  | zero =>
    intro u hu n hn tD tH he
    obtain ⟨n', rfl⟩ : ∃ n', n = n' + 1 := ⟨n - 1, by omega⟩
    have hu2 : u = N := by omega
    subst hu2
    obtain ⟨a, b⟩ := xq_skip (W := W) (N := u) (s := s) (j := j) (k := 32 * u) (1024 - 32 * u) (by omega) (fun i h1 h2 => by omega)
    rw [show 32 * u + (1024 - 32 * u) = 1024 by omega] at a b
    rw [← a, show 1024 * j + 1024 = 1024 * (j + 1) by omega] at he
    rw [← b]
    exact br_t (nI_le (Nat.le_refl _) (by omega)) ⟨yn_nb (dq_ch01 1024), hp tD tH he⟩
  | succ e ih =>
    intro u hu n hn tD tH he
    obtain ⟨n', rfl⟩ : ∃ n', n = n' + 1 := ⟨n - 1, by omega⟩
    refine br_f (nI_ge (by omega) (by omega)) ⟨N + 1, ?_⟩
    exact xr_14 hN hj (by omega) hW (fun a b z => ih (u + 1) (by omega) n' (by omega) a b z) N 0 (by omega) (N + 1) (by omega) tD tH he
theorem xr_all {post : Int32 → St2 → Prop} {j : Nat} (hN : N ≤ 32) (hj : j < N) (hW : dq_gr W) (he : xe_enc N (dq_seq W N s (1024 * j)) tD tH)
    (hp : ∀ a b : Nat → Int32, xe_enc N (dq_seq W N s (1024 * (j + 1))) a b → post (dq_ch W N s j 1024) (nI N, fm, fs, fe, fr, W, ds, ho, pa, a, b)) :
    wpX_relaxAll post (nI N, fm, fs, fe, fr, W, ds, ho, pa, tD, tH) :=
  ⟨N + 1, xr_4 hN hj hW hp N 0 (by omega) (N + 1) (by omega) tD tH he⟩
theorem xs_47 {post : Int32 → St2 → Prop} (hN : N ≤ 32) (hN0 : 1 ≤ N) (hW : dq_gr W)
    (hp : ∀ a b : Nat → Int32, xe_enc N (dq_seq W N s (1024 * N)) a b → post (if dq_ch W N s (N - 1) 1024 = 0 then 1 else 0) (nI N, fm, fs, fe, fr, W, ds, ho, pa, a, b)) :
    ∀ e j, j + e = N → ∀ n, e < n → (1 ≤ j → ¬ dq_ch W N s (j - 1) 1024 = 0) → ∀ tD tH : Nat → Int32, xe_enc N (dq_seq W N s (1024 * j)) tD tH → wX_search_47 post n (nI j) (nI N) fm fs fe fr W ds ho pa tD tH := by
  intro e
  induction e with
  | zero =>
    intro j hj n hn hc tD tH he
    obtain ⟨n', rfl⟩ : ∃ n', n = n' + 1 := ⟨n - 1, by omega⟩
    have hj2 : j = N := by omega
    subst hj2
    have z := hp tD tH he
    rw [if_neg (hc hN0)] at z
    exact br_t (nI_le (Nat.le_refl _) (by omega)) z
  | succ e ih =>
    intro j hj n hn hc tD tH he
    obtain ⟨n', rfl⟩ : ∃ n', n = n' + 1 := ⟨n - 1, by omega⟩
    refine br_f (nI_ge (by omega) (by omega)) (xr_all hN (by omega) hW he fun a b z => ?_)
    by_cases c : dq_ch W N s j 1024 = 0
    · have e1 := (dq_later (j' := N) c (by omega)).1
      have e2 := (dq_later (j' := j + 1) c (by omega)).1
      have e3 := (dq_later (j' := N - 1) c (by omega)).2
      have y := hp a b (by rw [e1, ← e2]; exact z)
      rw [if_pos e3] at y
      exact br_t c y
    · exact br_f c (nm_r (nI_1 j) (ih (j + 1) (by omega) n' (by omega) (fun _ => c) a b z))
theorem xs_2 {post : Int32 → St2 → Prop} (hN : N ≤ 32) (hN0 : 1 ≤ N) (hs : s < N) (hW : dq_gr W)
    (hp : ∀ a b : Nat → Int32, xe_enc N (dq_seq W N s (1024 * N)) a b → post (if dq_ch W N s (N - 1) 1024 = 0 then 1 else 0) (nI N, fm, fs, fe, fr, W, ds, ho, pa, a, b)) :
    ∀ e i, i + e = N → ∀ n, e < n → ∀ tD tH : Nat → Int32, (∀ x, x < i → tD x = 2147483647 ∧ tH x = -1) → wX_search_2 post (nI s) (nI N) fm fs fe fr n (nI i) W ds ho pa tD tH := by
  intro e
  induction e with
  | zero =>
    intro i hi n hn tD tH hz
    obtain ⟨n', rfl⟩ : ∃ n', n = n' + 1 := ⟨n - 1, by omega⟩
    have hi2 : i = N := by omega
    subst hi2
    have es : (nI s).toNatClampNeg = s := nI_clamp (by omega)
    have vs : vp_in (nI s) 32 := vp_in_nI (by omega) (by decide)
    exact br_t (nI_le (Nat.le_refl _) (by omega)) ⟨vs, nm_r (show upd tD (nI s).toNatClampNeg 0 = upd tD s 0 by rw [es]) ⟨vs, nm_r (show upd tH (nI s).toNatClampNeg 0 = upd tH s 0 by rw [es]) ⟨i + 1, xs_47 hN hN0 hW hp i 0 (by omega) (i + 1) (by omega) (fun z => absurd z (by decide)) _ _ (xe_0 hz)⟩⟩⟩
  | succ e ih =>
    intro i hi n hn tD tH hz
    obtain ⟨n', rfl⟩ : ∃ n', n = n' + 1 := ⟨n - 1, by omega⟩
    have ei : (nI i).toNatClampNeg = i := nI_clamp (by omega)
    have vi : vp_in (nI i) 32 := vp_in_nI (by omega) (by decide)
    refine br_f (nI_ge (by omega) (by omega)) ⟨vi, nm_r (show upd tD (nI i).toNatClampNeg 2147483647 = upd tD i 2147483647 by rw [ei]) ⟨vi, nm_r (show upd tH (nI i).toNatClampNeg (-1) = upd tH i (-1) by rw [ei]) (nm_r (nI_1 i) (ih (i + 1) (by omega) n' (by omega) _ _ fun x hx => ?_))⟩⟩
    by_cases c : x = i
    · rw [c]
      exact ⟨pk_us, pk_us⟩
    · rw [pk_un c, pk_un c]
      exact hz x (by omega)
/-- the class's search from s -/
theorem xs_search {post : Int32 → St2 → Prop} (hN : N ≤ 32) (hN0 : 1 ≤ N) (hs : s < N) (hW : dq_gr W)
    (hp : ∀ a b : Nat → Int32, xe_enc N (dq_seq W N s (1024 * N)) a b → post (if dq_ch W N s (N - 1) 1024 = 0 then 1 else 0) (nI N, fm, fs, fe, fr, W, ds, ho, pa, a, b)) :
    wpX_search post (nI N, fm, fs, fe, fr, W, ds, ho, pa, tD, tH) (nI s) :=
  ⟨N + 1, xs_2 hN hN0 hs hW hp N 0 (by omega) (N + 1) (by omega) tD tH fun x hx => absurd hx (Nat.not_lt_zero _)⟩
/-- a slot changed, searched, restored -/
theorem xk_cons {post : Int32 → St2 → Prop} {k : Nat} {w : Int32} (hN : N ≤ 32) (hN0 : 1 ≤ N) (hs : s < N) (hk : k < 1024) (hW : dq_gr (upd W k w))
    (hp : ∀ a b : Nat → Int32, post (if dq_ch (upd W k w) N s (N - 1) 1024 = 0 then 1 else 0) (nI N, fm, nI s, fe, fr, W, ds, ho, pa, a, b)) :
    wpX_isConsistentWith post (nI N, fm, nI s, fe, fr, W, ds, ho, pa, tD, tH) (nI k) w := by
  have ck : (nI k).toNatClampNeg = k := nI_clamp (by omega)
  have vk : vp_in (nI k) 1024 := vp_in_nI hk (by decide)
  refine ⟨vk, nm_r (show W (nI k).toNatClampNeg = W k by rw [ck]) ⟨vk, nm_r (show upd W (nI k).toNatClampNeg w = upd W k w by rw [ck]) ?_⟩⟩
  refine xs_search hN hN0 hs hW fun a b _ => ?_
  have e : upd (upd W k w) (nI k).toNatClampNeg (W k) = W := by
    rw [ck]
    funext x
    by_cases c : x = k
    · rw [c]; exact pk_us
    · rw [pk_un c, pk_un c]
  refine ⟨vk, nm_r e ⟨yn_nb ?_, hp a b⟩⟩
  by_cases c : dq_ch (upd W k w) N s (N - 1) 1024 = 0
  · rw [if_pos c]; exact Or.inr rfl
  · rw [if_neg c]; exact Or.inl rfl
end
end
section
section
variable {N s : Nat} {fm fs fe fr gm gc : Int32} {W ds ho pa tD tH pr wt d h r : Nat → Int32}
/-- how many are reached, of the first i -/
def rq_cnt (r : Nat → Int32) : Nat → Int32
  | 0 => 0
  | i + 1 => if r i = 0 then rq_cnt r i else rq_cnt r i + 1
/-- u is a tight predecessor of v -/
abbrev rq_tight (W : Nat → Int32) (q : dq_S) (u v : Nat) : Prop := ¬ W (32 * u + v) = 2147483647 ∧ ¬ q.1 u = 0 ∧ q.2.1 u + W (32 * u + v) = q.2.1 v ∧ q.2.2 u + 1 = q.2.2 v
/-- the first tight predecessor from u on, of e places -/
def rq_scan (W : Nat → Int32) (q : dq_S) (v : Nat) : Nat → Nat → Int32
  | 0, _ => -1
  | e + 1, u => if rq_tight W q u v then nI u else rq_scan W q v e (u + 1)
def rq_par (W : Nat → Int32) (N s : Nat) (q : dq_S) (v : Nat) : Int32 := if v = s then -1 else if q.1 v = 0 then -1 else rq_scan W q v N 0
theorem rq_scT {W : Nat → Int32} {q : dq_S} {v e u : Nat} (c : rq_tight W q u v) : rq_scan W q v (e + 1) u = nI u := if_pos c
theorem rq_scF {W : Nat → Int32} {q : dq_S} {v e u : Nat} (c : ¬ rq_tight W q u v) : rq_scan W q v (e + 1) u = rq_scan W q v e (u + 1) := if_neg c
/-- the class's isTight -/
theorem xp_tight {post : Int32 → Prop} {T u v : Nat} {q : dq_S} (hN : N ≤ 32) (hu : u < N) (hv : v < N) (hT : T ≤ 32768) (hb : dq_bd T q) (he : xe_enc N q ds ho) (hv0 : ¬ q.1 v = 0) (hp : post (if rq_tight W q u v then 1 else 0)) : wpX_isTight post (nI N, fm, fs, fe, fr, W, ds, ho, pa, tD, tH) (nI u) (nI v) := by
  have cu : (nI u).toNatClampNeg = u := nI_clamp (by omega)
  have cv : (nI v).toNatClampNeg = v := nI_clamp (by omega)
  have ck : (nI (32 * u + v)).toNatClampNeg = 32 * u + v := nI_clamp (by omega)
  have vu : vp_in (nI u) 32 := vp_in_nI (by omega) (by decide)
  have vv : vp_in (nI v) 32 := vp_in_nI (by omega) (by decide)
  have vk : vp_in (nI (32 * u + v)) 1024 := vp_in_nI (by omega) (by decide)
  obtain ⟨_, dv, hv'⟩ := (he v hv).resolve_left (fun z => hv0 z.1)
  unfold wpX_isTight
  refine xs_slot ⟨vk, ?_⟩
  by_cases c1 : W (32 * u + v) = 2147483647
  · rw [if_neg (fun c => c.1 c1)] at hp
    exact br_t (by rw [ck]; exact c1) hp
  refine br_f (by rw [ck]; exact c1) ⟨vu, ?_⟩
  rcases he u hu with ⟨r0, du, hu'⟩ | ⟨r1, du, hu'⟩
  · rw [if_neg (fun c => c.2.1 r0)] at hp
    exact br_t (by rw [cu]; exact du) hp
  have r0 : ¬ q.1 u = 0 := by rw [r1]; exact yn_10
  refine br_f (by rw [cu, du]; exact xe_ne hT hb r1) ⟨vu, vk, vv, ?_⟩
  by_cases c2 : q.2.1 u + W (32 * u + v) = q.2.1 v
  · refine br_t (by rw [cu, ck, cv, du, dv]; exact c2) ⟨vu, vv, ?_⟩
    by_cases c3 : q.2.2 u + 1 = q.2.2 v
    · rw [if_pos ⟨c1, r0, c2, c3⟩] at hp
      exact br_t (by rw [cu, cv, hu', hv']; exact c3) hp
    · rw [if_neg (fun c => c3 c.2.2.2)] at hp
      exact br_f (by rw [cu, cv, hu', hv']; exact c3) hp
  · rw [if_neg (fun c => c2 c.2.2.1)] at hp
    exact br_f (by rw [cu, ck, cv, du, dv]; exact c2) hp
theorem xp_23 {post : Int32 → Prop} {T v : Nat} {q : dq_S} (hN : N ≤ 32) (hv : v < N) (hT : T ≤ 32768) (hb : dq_bd T q) (he : xe_enc N q ds ho) (hv0 : ¬ q.1 v = 0) :
    ∀ e u, u + e = N → ∀ n, e < n → post (rq_scan W q v e u) → wX_leastParent_23 post (nI v) (nI N) fm fs fe fr W ds ho pa tD tH n (nI u) := by
  intro e
  induction e with
  | zero =>
    intro u hu n hn hp
    obtain ⟨n', rfl⟩ : ∃ n', n = n' + 1 := ⟨n - 1, by omega⟩
    exact br_t (nI_le (by omega) (by omega)) hp
  | succ e ih =>
    intro u hu n hn hp
    obtain ⟨n', rfl⟩ : ∃ n', n = n' + 1 := ⟨n - 1, by omega⟩
    refine br_f (nI_ge (by omega) (by omega)) (xp_tight hN (by omega) hv hT hb he hv0 ?_)
    by_cases c : rq_tight W q u v
    · rw [rq_scT c] at hp
      rw [if_pos c]
      exact br_f yn_10 hp
    · rw [rq_scF c] at hp
      rw [if_neg c]
      exact br_t rfl (nm_r (nI_1 u) (ih (u + 1) (by omega) n' (by omega) hp))
theorem xp_least {post : Int32 → Prop} {T v : Nat} {q : dq_S} (hN : N ≤ 32) (hs : s < N) (hv : v < N) (hT : T ≤ 32768) (hb : dq_bd T q) (he : xe_enc N q ds ho) (hp : post (rq_par W N s q v)) : wpX_leastParent post (nI N, fm, nI s, fe, fr, W, ds, ho, pa, tD, tH) (nI v) := by
  have cv : (nI v).toNatClampNeg = v := nI_clamp (by omega)
  unfold rq_par at hp
  by_cases c1 : v = s
  · rw [if_pos c1] at hp
    exact br_t (by rw [c1]) hp
  rw [if_neg c1] at hp
  refine br_f (fun z => c1 ((nI_eq (by omega) (by omega)).mp z)) ⟨vp_in_nI (by omega) (by decide), ?_⟩
  rcases he v hv with ⟨r0, dv, _⟩ | ⟨r1, dv, _⟩
  · rw [if_pos r0] at hp
    exact br_t (by rw [cv]; exact dv) hp
  · have r0 : ¬ q.1 v = 0 := by rw [r1]; exact yn_10
    rw [if_neg r0] at hp
    exact br_f (by rw [cv, dv]; exact xe_ne hT hb r1) ⟨N + 1, xp_23 hN hv hT hb he r0 N 0 (by omega) (N + 1) (by omega) hp⟩
/-- what the class keeps -/
def xf_ok (W : Nat → Int32) (N s : Nat) (ds ho pa : Nat → Int32) : Prop := xe_enc N (dq_seq W N s (1024 * N)) ds ho ∧ ∀ x, x < N → pa x = rq_par W N s (dq_seq W N s (1024 * N)) x
theorem xc_77 {post : St2 → Prop} {T : Nat} {q : dq_S} (hN : N ≤ 32) (hs : s < N) (hT : T ≤ 32768) (hb : dq_bd T q) (he : xe_enc N q ds ho)
    (hp : ∀ pa : Nat → Int32, (∀ x, x < N → pa x = rq_par W N s q x) → post (nI N, fm, nI s, fe, fr, W, ds, ho, pa, tD, tH)) :
    ∀ e i, i + e = N → ∀ n, e < n → ∀ pa : Nat → Int32, (∀ x, x < i → pa x = rq_par W N s q x) → wX_recompute_77 post (nI N) fm (nI s) fe fr n (nI i) W ds ho pa tD tH := by
  intro e
  induction e with
  | zero =>
    intro i hi n hn pa hz
    obtain ⟨n', rfl⟩ : ∃ n', n = n' + 1 := ⟨n - 1, by omega⟩
    have hi2 : i = N := by omega
    subst hi2
    exact br_t (nI_le (Nat.le_refl _) (by omega)) (hp pa hz)
  | succ e ih =>
    intro i hi n hn pa hz
    obtain ⟨n', rfl⟩ : ∃ n', n = n' + 1 := ⟨n - 1, by omega⟩
    have ei : (nI i).toNatClampNeg = i := nI_clamp (by omega)
    refine br_f (nI_ge (by omega) (by omega)) (xp_least hN hs (by omega) hT hb he ?_)
    refine ⟨vp_in_nI (by omega) (by decide), nm_r (show upd pa (nI i).toNatClampNeg (rq_par W N s q i) = upd pa i (rq_par W N s q i) by rw [ei]) (nm_r (nI_1 i) (ih (i + 1) (by omega) n' (by omega) _ fun x hx => ?_))⟩
    by_cases c : x = i
    · rw [c]; exact pk_us
    · rw [pk_un c]; exact hz x (by omega)
theorem xc_16 {post : St2 → Prop} {T : Nat} {q : dq_S} (hN : N ≤ 32) (hs : s < N) (hT : T ≤ 32768) (hb : dq_bd T q) (he : xe_enc N q tD tH)
    (hp : ∀ ds ho pa : Nat → Int32, xe_enc N q ds ho → (∀ x, x < N → pa x = rq_par W N s q x) → post (nI N, fm, nI s, fe, rq_cnt q.1 N, W, ds, ho, pa, tD, tH)) :
    ∀ e i, i + e = N → ∀ n, e < n → ∀ ds ho : Nat → Int32, (∀ x, x < i → ds x = tD x ∧ ho x = tH x) → wX_recompute_16 post (nI N) fm (nI s) fe n (nI i) (rq_cnt q.1 i) W ds ho pa tD tH := by
  intro e
  induction e with
  | zero =>
    intro i hi n hn ds ho hz
    obtain ⟨n', rfl⟩ : ∃ n', n = n' + 1 := ⟨n - 1, by omega⟩
    have hi2 : i = N := by omega
    subst hi2
    have he' : xe_enc i q ds ho := fun x hx => by
      rw [(hz x hx).1, (hz x hx).2]
      exact he x hx
    exact br_t (nI_le (Nat.le_refl _) (by omega)) ⟨i + 1, xc_77 hN hs hT hb he' (fun pa hpa => hp ds ho pa he' hpa) i 0 (by omega) (i + 1) (by omega) pa fun x hx => absurd hx (Nat.not_lt_zero _)⟩
  | succ e ih =>
    intro i hi n hn ds ho hz
    obtain ⟨n', rfl⟩ : ∃ n', n = n' + 1 := ⟨n - 1, by omega⟩
    have ei : (nI i).toNatClampNeg = i := nI_clamp (by omega)
    have vi : vp_in (nI i) 32 := vp_in_nI (by omega) (by decide)
    have z := ih (i + 1) (by omega) n' (by omega) (upd ds i (tD i)) (upd ho i (tH i)) (fun x hx => by
      by_cases c : x = i
      · rw [c]; exact ⟨pk_us, pk_us⟩
      · rw [pk_un c, pk_un c]; exact hz x (by omega))
    have ec : rq_cnt q.1 (i + 1) = if q.1 i = 0 then rq_cnt q.1 i else rq_cnt q.1 i + 1 := rfl
    rw [ec] at z
    refine br_f (nI_ge (by omega) (by omega)) ⟨vi, vi, nm_r (show upd ds (nI i).toNatClampNeg (tD (nI i).toNatClampNeg) = upd ds i (tD i) by rw [ei]) ⟨vi, vi, nm_r (show upd ho (nI i).toNatClampNeg (tH (nI i).toNatClampNeg) = upd ho i (tH i) by rw [ei]) ⟨vi, ?_⟩⟩⟩
    rcases he i (by omega) with ⟨r0, dv, _⟩ | ⟨r1, dv, _⟩
    · rw [if_pos r0] at z
      exact br_t (by rw [ei, pk_us]; exact dv) (nm_r (nI_1 i) z)
    · rw [if_neg (by rw [r1]; exact yn_10)] at z
      exact br_f (by rw [ei, pk_us, dv]; exact xe_ne hT hb r1) (nm_e (nm_r (nI_1 i) z))
/-- the class's recompute -/
theorem xc_rec {post : St2 → Prop} (hN : N ≤ 32) (hN0 : 1 ≤ N) (hs : s < N) (hW : dq_gr W)
    (hp : ∀ ds ho pa tD tH : Nat → Int32, xf_ok W N s ds ho pa → post (nI N, fm, nI s, fe, rq_cnt (dq_seq W N s (1024 * N)).1 N, W, ds, ho, pa, tD, tH)) :
    wpX_recompute post (nI N, fm, nI s, fe, fr, W, ds, ho, pa, tD, tH) := by
  unfold wpX_recompute
  refine xs_search hN hN0 hs hW fun a b z => ?_
  exact ⟨N + 1, xc_16 (T := 1024 * N) hN hs (by omega) (dq_bdT hW _ (by omega)) z (fun ds ho pa h1 h2 => hp ds ho pa a b ⟨h1, h2⟩) N 0 (by omega) (N + 1) (by omega) ds ho fun x hx => absurd hx (Nat.not_lt_zero _)⟩
end
end
section
section
variable {N s i j m : Nat} {fm fs fe fr x y w : Int32} {W ds ho pa tD tH : Nat → Int32}
/-- not a vertex -/
def xv_bad (N : Nat) (x : Int32) : Prop := x < 0 ∨ nI N ≤ x
/-- not a weight -/
def xw_bad (w : Int32) : Prop := w < -1000 ∨ 1000 < w
theorem xv_cases (hN : N ≤ 32) (x : Int32) : xv_bad N x ∨ ∃ j, j < N ∧ x = nI j := by
  rcases pk_ix x (n := N) (by omega) with a | a | a
  · exact Or.inl (Or.inl a)
  · exact Or.inl (Or.inr a)
  · exact Or.inr a
theorem xw_cases (w : Int32) : xw_bad w ∨ (¬ w < -1000 ∧ ¬ 1000 < w ∧ w ≤ 1000 ∧ ¬ w = 2147483647 ∧ -1000 ≤ w.toInt ∧ w.toInt ≤ 1000) := by
  by_cases a : w < -1000
  · exact Or.inl (Or.inl a)
  by_cases b : 1000 < w
  · exact Or.inl (Or.inr b)
  have t1 : (-1000 : Int32).toInt = -1000 := by decide
  have t2 : (1000 : Int32).toInt = 1000 := by decide
  have a' := a
  have b' := b
  rw [Int32.lt_iff_toInt_lt, t1] at a'
  rw [Int32.lt_iff_toInt_lt, t2] at b'
  refine Or.inr ⟨a, b, ?_, ?_, by omega, by omega⟩
  · rw [Int32.le_iff_toInt_le, t2]; omega
  · intro e
    rw [e, dq_tM] at b'
    omega
theorem xv_b {post : Int32 → Prop} (a : xv_bad N x) (hp : post 0) : wpX_isValid post (nI N, fm, fs, fe, fr, W, ds, ho, pa, tD, tH) x := by
  by_cases c : x < 0
  · exact br_t c hp
  · exact br_f c (br_t (a.resolve_left c) hp)
theorem xv_o {post : Int32 → Prop} (hN : N ≤ 32) (hi : i < N) (hp : post 1) : wpX_isValid post (nI N, fm, fs, fe, fr, W, ds, ho, pa, tD, tH) (nI i) :=
  br_f (nI_pos (by omega)) (br_f (nI_ge hi (by omega)) hp)
theorem xw_b {post : Int32 → Prop} (a : xw_bad w) (hp : post 0) : wpX_isAllowed post () w := by
  by_cases c : w < -1000
  · exact br_t c hp
  · exact br_f c (br_t (a.resolve_left c) hp)
theorem xw_o {post : Int32 → Prop} (a : ¬ w < -1000) (b : ¬ 1000 < w) (hp : post 1) : wpX_isAllowed post () w := br_f a (br_f b hp)
theorem xn_k (hN : N ≤ 32) (hi : i < N) (hj : j < N) : 32 * i + j < 1024 := by omega
theorem xn_v {k : Nat} (hk : k < 1024) : vp_in (nI k) 1024 := vp_in_nI hk (by decide)
theorem xn_c {k : Nat} (hk : k < 1024) : (nI k).toNatClampNeg = k := nI_clamp (by omega)
theorem xn_v32 (hN : N ≤ 32) (hi : i < N) : vp_in (nI i) 32 := vp_in_nI (by omega) (by decide)
theorem xn_c32 (hN : N ≤ 32) (hi : i < N) : (nI i).toNatClampNeg = i := nI_clamp (by omega)
theorem xa_1 {post : Int32 → St2 → Prop} (a : xv_bad N x) (hp : post 1 (nI N, fm, fs, fe, fr, W, ds, ho, pa, tD, tH)) : wpX_addEdge post (nI N, fm, fs, fe, fr, W, ds, ho, pa, tD, tH) x y w := by
  unfold wpX_addEdge
  exact xv_b a (br_t rfl hp)
theorem xa_2 {post : Int32 → St2 → Prop} (hN : N ≤ 32) (hi : i < N) (a : xv_bad N y) (hp : post 1 (nI N, fm, fs, fe, fr, W, ds, ho, pa, tD, tH)) : wpX_addEdge post (nI N, fm, fs, fe, fr, W, ds, ho, pa, tD, tH) (nI i) y w := by
  unfold wpX_addEdge
  exact xv_o hN hi (br_f yn_10 (xv_b a (br_t rfl hp)))
theorem xa_3 {post : Int32 → St2 → Prop} (hN : N ≤ 32) (hi : i < N) (hj : j < N) (a : xw_bad w) (hp : post 2 (nI N, fm, fs, fe, fr, W, ds, ho, pa, tD, tH)) : wpX_addEdge post (nI N, fm, fs, fe, fr, W, ds, ho, pa, tD, tH) (nI i) (nI j) w := by
  unfold wpX_addEdge
  exact xv_o hN hi (br_f yn_10 (xv_o hN hj (br_f yn_10 (xw_b a (br_t rfl hp)))))
theorem xa_4 {post : Int32 → St2 → Prop} (hN : N ≤ 32) (hi : i < N) (hj : j < N) (a : ¬ w < -1000) (b : ¬ 1000 < w) (c : ¬ W (32 * i + j) = 2147483647) (hp : post 3 (nI N, fm, fs, fe, fr, W, ds, ho, pa, tD, tH)) : wpX_addEdge post (nI N, fm, fs, fe, fr, W, ds, ho, pa, tD, tH) (nI i) (nI j) w := by
  have hk := xn_k hN hi hj
  unfold wpX_addEdge
  exact xv_o hN hi (br_f yn_10 (xv_o hN hj (br_f yn_10 (xw_o a b (br_f yn_10 (xs_slot ⟨xn_v hk, br_f (by rw [xn_c hk]; exact c) hp⟩))))))
theorem xa_5 {post : Int32 → St2 → Prop} (hN : N ≤ 32) (hi : i < N) (hj : j < N) (a : ¬ w < -1000) (b : ¬ 1000 < w) (c : W (32 * i + j) = 2147483647) (f : ¬ fe < fm) (hp : post 5 (nI N, fm, fs, fe, fr, W, ds, ho, pa, tD, tH)) : wpX_addEdge post (nI N, fm, fs, fe, fr, W, ds, ho, pa, tD, tH) (nI i) (nI j) w := by
  have hk := xn_k hN hi hj
  unfold wpX_addEdge
  exact xv_o hN hi (br_f yn_10 (xv_o hN hj (br_f yn_10 (xw_o a b (br_f yn_10 (xs_slot ⟨xn_v hk, br_t (by rw [xn_c hk]; exact c) (br_f f hp)⟩))))))
theorem xa_6 {post : Int32 → St2 → Prop} (hN : N ≤ 32) (hN0 : 1 ≤ N) (hs : s < N) (hi : i < N) (hj : j < N) (a : ¬ w < -1000) (b : ¬ 1000 < w) (c : W (32 * i + j) = 2147483647) (f : fe < fm) (hW : dq_gr (upd W (32 * i + j) w))
    (h0 : ¬ dq_ch (upd W (32 * i + j) w) N s (N - 1) 1024 = 0 → ∀ tD tH : Nat → Int32, post 6 (nI N, fm, nI s, fe, fr, W, ds, ho, pa, tD, tH))
    (h1 : dq_ch (upd W (32 * i + j) w) N s (N - 1) 1024 = 0 → ∀ ds ho pa tD tH : Nat → Int32, xf_ok (upd W (32 * i + j) w) N s ds ho pa → post 0 (nI N, fm, nI s, fe + 1, rq_cnt (dq_seq (upd W (32 * i + j) w) N s (1024 * N)).1 N, upd W (32 * i + j) w, ds, ho, pa, tD, tH)) :
    wpX_addEdge post (nI N, fm, nI s, fe, fr, W, ds, ho, pa, tD, tH) (nI i) (nI j) w := by
  have hk := xn_k hN hi hj
  unfold wpX_addEdge
  refine xv_o hN hi (br_f yn_10 (xv_o hN hj (br_f yn_10 (xw_o a b (br_f yn_10 (xs_slot ⟨xn_v hk, br_t (by rw [xn_c hk]; exact c) (br_t f ?_)⟩))))))
  refine xk_cons hN hN0 hs hk hW fun tD' tH' => ?_
  by_cases q : dq_ch (upd W (32 * i + j) w) N s (N - 1) 1024 = 0
  · rw [if_pos q]
    refine br_f yn_10 ⟨xn_v hk, nm_r (show upd W (nI (32 * i + j)).toNatClampNeg w = upd W (32 * i + j) w by rw [xn_c hk]) (nm_e ?_)⟩
    exact xc_rec hN hN0 hs hW fun ds ho pa tD tH z => h1 q ds ho pa tD tH z
  · rw [if_neg q]
    exact br_t rfl (h0 q tD' tH')
theorem xb_1 {post : Int32 → St2 → Prop} (a : xv_bad N x) (hp : post 1 (nI N, fm, fs, fe, fr, W, ds, ho, pa, tD, tH)) : wpX_setWeight post (nI N, fm, fs, fe, fr, W, ds, ho, pa, tD, tH) x y w := by
  unfold wpX_setWeight
  exact xv_b a (br_t rfl hp)
theorem xb_2 {post : Int32 → St2 → Prop} (hN : N ≤ 32) (hi : i < N) (a : xv_bad N y) (hp : post 1 (nI N, fm, fs, fe, fr, W, ds, ho, pa, tD, tH)) : wpX_setWeight post (nI N, fm, fs, fe, fr, W, ds, ho, pa, tD, tH) (nI i) y w := by
  unfold wpX_setWeight
  exact xv_o hN hi (br_f yn_10 (xv_b a (br_t rfl hp)))
theorem xb_3 {post : Int32 → St2 → Prop} (hN : N ≤ 32) (hi : i < N) (hj : j < N) (a : xw_bad w) (hp : post 2 (nI N, fm, fs, fe, fr, W, ds, ho, pa, tD, tH)) : wpX_setWeight post (nI N, fm, fs, fe, fr, W, ds, ho, pa, tD, tH) (nI i) (nI j) w := by
  unfold wpX_setWeight
  exact xv_o hN hi (br_f yn_10 (xv_o hN hj (br_f yn_10 (xw_b a (br_t rfl hp)))))
theorem xb_4 {post : Int32 → St2 → Prop} (hN : N ≤ 32) (hi : i < N) (hj : j < N) (a : ¬ w < -1000) (b : ¬ 1000 < w) (c : W (32 * i + j) = 2147483647) (hp : post 4 (nI N, fm, fs, fe, fr, W, ds, ho, pa, tD, tH)) : wpX_setWeight post (nI N, fm, fs, fe, fr, W, ds, ho, pa, tD, tH) (nI i) (nI j) w := by
  have hk := xn_k hN hi hj
  unfold wpX_setWeight
  exact xv_o hN hi (br_f yn_10 (xv_o hN hj (br_f yn_10 (xw_o a b (br_f yn_10 (xs_slot ⟨xn_v hk, br_t (by rw [xn_c hk]; exact c) hp⟩))))))
theorem xb_6 {post : Int32 → St2 → Prop} (hN : N ≤ 32) (hN0 : 1 ≤ N) (hs : s < N) (hi : i < N) (hj : j < N) (a : ¬ w < -1000) (b : ¬ 1000 < w) (c : ¬ W (32 * i + j) = 2147483647) (hW : dq_gr (upd W (32 * i + j) w))
    (h0 : ¬ dq_ch (upd W (32 * i + j) w) N s (N - 1) 1024 = 0 → ∀ tD tH : Nat → Int32, post 6 (nI N, fm, nI s, fe, fr, W, ds, ho, pa, tD, tH))
    (h1 : dq_ch (upd W (32 * i + j) w) N s (N - 1) 1024 = 0 → ∀ ds ho pa tD tH : Nat → Int32, xf_ok (upd W (32 * i + j) w) N s ds ho pa → post 0 (nI N, fm, nI s, fe, rq_cnt (dq_seq (upd W (32 * i + j) w) N s (1024 * N)).1 N, upd W (32 * i + j) w, ds, ho, pa, tD, tH)) :
    wpX_setWeight post (nI N, fm, nI s, fe, fr, W, ds, ho, pa, tD, tH) (nI i) (nI j) w := by
  have hk := xn_k hN hi hj
  unfold wpX_setWeight
  refine xv_o hN hi (br_f yn_10 (xv_o hN hj (br_f yn_10 (xw_o a b (br_f yn_10 (xs_slot ⟨xn_v hk, br_f (by rw [xn_c hk]; exact c) ?_⟩))))))
  refine xk_cons hN hN0 hs hk hW fun tD' tH' => ?_
  by_cases q : dq_ch (upd W (32 * i + j) w) N s (N - 1) 1024 = 0
  · rw [if_pos q]
    refine br_f yn_10 ⟨xn_v hk, nm_r (show upd W (nI (32 * i + j)).toNatClampNeg w = upd W (32 * i + j) w by rw [xn_c hk]) ?_⟩
    exact xc_rec hN hN0 hs hW fun ds ho pa tD tH z => h1 q ds ho pa tD tH z
  · rw [if_neg q]
    exact br_t rfl (h0 q tD' tH')
theorem xd_1 {post : Int32 → St2 → Prop} (a : xv_bad N x) (hp : post 1 (nI N, fm, fs, fe, fr, W, ds, ho, pa, tD, tH)) : wpX_removeEdge post (nI N, fm, fs, fe, fr, W, ds, ho, pa, tD, tH) x y := by
  unfold wpX_removeEdge
  exact xv_b a (br_t rfl hp)
theorem xd_2 {post : Int32 → St2 → Prop} (hN : N ≤ 32) (hi : i < N) (a : xv_bad N y) (hp : post 1 (nI N, fm, fs, fe, fr, W, ds, ho, pa, tD, tH)) : wpX_removeEdge post (nI N, fm, fs, fe, fr, W, ds, ho, pa, tD, tH) (nI i) y := by
  unfold wpX_removeEdge
  exact xv_o hN hi (br_f yn_10 (xv_b a (br_t rfl hp)))
theorem xd_4 {post : Int32 → St2 → Prop} (hN : N ≤ 32) (hi : i < N) (hj : j < N) (c : W (32 * i + j) = 2147483647) (hp : post 4 (nI N, fm, fs, fe, fr, W, ds, ho, pa, tD, tH)) : wpX_removeEdge post (nI N, fm, fs, fe, fr, W, ds, ho, pa, tD, tH) (nI i) (nI j) := by
  have hk := xn_k hN hi hj
  unfold wpX_removeEdge
  exact xv_o hN hi (br_f yn_10 (xv_o hN hj (br_f yn_10 (xs_slot ⟨xn_v hk, br_t (by rw [xn_c hk]; exact c) hp⟩))))
theorem xd_6 {post : Int32 → St2 → Prop} (hN : N ≤ 32) (hN0 : 1 ≤ N) (hs : s < N) (hi : i < N) (hj : j < N) (c : ¬ W (32 * i + j) = 2147483647) (hW : dq_gr (upd W (32 * i + j) 2147483647))
    (h1 : ∀ ds ho pa tD tH : Nat → Int32, xf_ok (upd W (32 * i + j) 2147483647) N s ds ho pa → post 0 (nI N, fm, nI s, fe - 1, rq_cnt (dq_seq (upd W (32 * i + j) 2147483647) N s (1024 * N)).1 N, upd W (32 * i + j) 2147483647, ds, ho, pa, tD, tH)) :
    wpX_removeEdge post (nI N, fm, nI s, fe, fr, W, ds, ho, pa, tD, tH) (nI i) (nI j) := by
  have hk := xn_k hN hi hj
  unfold wpX_removeEdge
  refine xv_o hN hi (br_f yn_10 (xv_o hN hj (br_f yn_10 (xs_slot ⟨xn_v hk, br_f (by rw [xn_c hk]; exact c) ⟨xn_v hk, nm_r (show upd W (nI (32 * i + j)).toNatClampNeg 2147483647 = upd W (32 * i + j) 2147483647 by rw [xn_c hk]) (nm_e ?_)⟩⟩))))
  exact xc_rec hN hN0 hs hW fun ds ho pa tD tH z => h1 ds ho pa tD tH z
theorem xe_1 {post : Int32 → St2 → Prop} (a : xv_bad N x) (hp : post 1 (nI N, fm, fs, fe, fr, W, ds, ho, pa, tD, tH)) : wpX_setSource post (nI N, fm, fs, fe, fr, W, ds, ho, pa, tD, tH) x := by
  unfold wpX_setSource
  exact xv_b a (br_t rfl hp)
theorem xe_6 {post : Int32 → St2 → Prop} (hN : N ≤ 32) (hN0 : 1 ≤ N) (hi : i < N) (hW : dq_gr W)
    (h0 : ¬ dq_ch W N i (N - 1) 1024 = 0 → ∀ tD tH : Nat → Int32, post 6 (nI N, fm, fs, fe, fr, W, ds, ho, pa, tD, tH))
    (h1 : dq_ch W N i (N - 1) 1024 = 0 → ∀ ds ho pa tD tH : Nat → Int32, xf_ok W N i ds ho pa → post 0 (nI N, fm, nI i, fe, rq_cnt (dq_seq W N i (1024 * N)).1 N, W, ds, ho, pa, tD, tH)) :
    wpX_setSource post (nI N, fm, fs, fe, fr, W, ds, ho, pa, tD, tH) (nI i) := by
  unfold wpX_setSource
  refine xv_o hN hi (br_f yn_10 ?_)
  refine xs_search hN hN0 hi hW fun tD' tH' _ => ?_
  by_cases q : dq_ch W N i (N - 1) 1024 = 0
  · rw [if_pos q]
    refine br_f yn_10 ?_
    exact xc_rec hN hN0 hi hW fun ds ho pa tD tH z => h1 q ds ho pa tD tH z
  · rw [if_neg q]
    exact br_t rfl (h0 q tD' tH')
theorem xh_b {post : Int32 → Prop} (a : xv_bad N x) (hp : post 2147483647) : wpX_getDist post (nI N, fm, fs, fe, fr, W, ds, ho, pa, tD, tH) x := by
  unfold wpX_getDist
  exact xv_b a (br_t rfl hp)
theorem xh_o {post : Int32 → Prop} (hN : N ≤ 32) (hi : i < N) (hp : post (ds i)) : wpX_getDist post (nI N, fm, fs, fe, fr, W, ds, ho, pa, tD, tH) (nI i) := by
  unfold wpX_getDist
  exact xv_o hN hi (br_f yn_10 ⟨xn_v32 hN hi, by rw [xn_c32 hN hi]; exact hp⟩)
theorem xi_b {post : Int32 → Prop} (a : xv_bad N x) (hp : post 0) : wpX_isReachable post (nI N, fm, fs, fe, fr, W, ds, ho, pa, tD, tH) x := by
  unfold wpX_isReachable
  exact xv_b a (br_t rfl hp)
theorem xi_o {post : Int32 → Prop} (hN : N ≤ 32) (hi : i < N) (h0 : ds i = 2147483647 → post 0) (h1 : ¬ ds i = 2147483647 → post 1) : wpX_isReachable post (nI N, fm, fs, fe, fr, W, ds, ho, pa, tD, tH) (nI i) := by
  unfold wpX_isReachable
  refine xv_o hN hi (br_f yn_10 ⟨xn_v32 hN hi, ?_⟩)
  rw [xn_c32 hN hi]
  exact ⟨h0, h1⟩
theorem xj_b {post : Int32 → Prop} (a : xv_bad N x) (hp : post (-1)) : wpX_getHops post (nI N, fm, fs, fe, fr, W, ds, ho, pa, tD, tH) x := by
  unfold wpX_getHops
  exact xv_b a (br_t rfl hp)
theorem xj_o {post : Int32 → Prop} (hN : N ≤ 32) (hi : i < N) (hp : post (ho i)) : wpX_getHops post (nI N, fm, fs, fe, fr, W, ds, ho, pa, tD, tH) (nI i) := by
  unfold wpX_getHops
  exact xv_o hN hi (br_f yn_10 ⟨xn_v32 hN hi, by rw [xn_c32 hN hi]; exact hp⟩)
theorem xm_b {post : Int32 → Prop} (a : xv_bad N x) (hp : post (-1)) : wpX_getParent post (nI N, fm, fs, fe, fr, W, ds, ho, pa, tD, tH) x := by
  unfold wpX_getParent
  exact xv_b a (br_t rfl hp)
theorem xm_o {post : Int32 → Prop} (hN : N ≤ 32) (hi : i < N) (hp : post (pa i)) : wpX_getParent post (nI N, fm, fs, fe, fr, W, ds, ho, pa, tD, tH) (nI i) := by
  unfold wpX_getParent
  exact xv_o hN hi (br_f yn_10 ⟨xn_v32 hN hi, by rw [xn_c32 hN hi]; exact hp⟩)
theorem xo_1 {post : Int32 → Prop} (a : xv_bad N x) (hp : post 2147483647) : wpX_getWeight post (nI N, fm, fs, fe, fr, W, ds, ho, pa, tD, tH) x y := by
  unfold wpX_getWeight
  exact xv_b a (br_t rfl hp)
theorem xo_2 {post : Int32 → Prop} (hN : N ≤ 32) (hi : i < N) (a : xv_bad N y) (hp : post 2147483647) : wpX_getWeight post (nI N, fm, fs, fe, fr, W, ds, ho, pa, tD, tH) (nI i) y := by
  unfold wpX_getWeight
  exact xv_o hN hi (br_f yn_10 (xv_b a (br_t rfl hp)))
theorem xo_o {post : Int32 → Prop} (hN : N ≤ 32) (hi : i < N) (hj : j < N) (hp : post (W (32 * i + j))) : wpX_getWeight post (nI N, fm, fs, fe, fr, W, ds, ho, pa, tD, tH) (nI i) (nI j) := by
  have hk := xn_k hN hi hj
  unfold wpX_getWeight
  exact xv_o hN hi (br_f yn_10 (xv_o hN hj (br_f yn_10 (xs_slot ⟨xn_v hk, by rw [xn_c hk]; exact hp⟩))))
end
end
section
section
variable {k N s m i j : Nat} {fe w : Int32} {W ds ho pa tD tH pr wt d h r : Nat → Int32}
end
section
theorem xl_clamp (p : Int32) {a b : Nat} (hab : a ≤ b) (hb : b < 2 ^ 31) : ∃ c, a ≤ c ∧ c ≤ b ∧ ((nI a ≤ p ∧ p ≤ nI b ∧ p = nI c) ∨ (nI a ≤ p ∧ ¬ p ≤ nI b ∧ c = b) ∨ (¬ nI a ≤ p ∧ c = a)) := by
  by_cases h1 : nI a ≤ p
  · by_cases h2 : p ≤ nI b
    · have h0 : ¬ p < 0 := fun z => by
        rw [Int32.le_iff_toInt_le, nI_toInt (by omega)] at h1
        rw [Int32.lt_iff_toInt_lt, dq_t0] at z
        omega
      obtain ⟨c, hc, rfl⟩ := nI_of h0
      exact ⟨c, (nI_leI (by omega) hc).mp h1, (nI_leI hc hb).mp h2, Or.inl ⟨h1, h2, rfl⟩⟩
    · exact ⟨b, hab, Nat.le_refl _, Or.inr (Or.inl ⟨h1, h2, rfl⟩)⟩
  · exact ⟨a, Nat.le_refl _, hab, Or.inr (Or.inr ⟨h1, rfl⟩)⟩
def xl_is (p : Int32) (a b c : Nat) : Prop := (nI a ≤ p ∧ p ≤ nI b ∧ p = nI c) ∨ (nI a ≤ p ∧ ¬ p ≤ nI b ∧ c = b) ∨ (¬ nI a ≤ p ∧ c = a)
theorem xl_cx {post : Int32 → Prop} {p : Int32} {a b c : Nat} (h : xl_is p a b c) (hp : post (nI c)) : wpX_clamp post () p (nI a) (nI b) := by
  rcases h with ⟨h1, h2, e⟩ | ⟨h1, h2, e⟩ | ⟨h1, e⟩
  · rw [← e] at hp
    exact br_t h1 (br_t h2 hp)
  · rw [e] at hp
    exact br_t h1 (br_f h2 hp)
  · rw [e] at hp
    exact br_f h1 hp
/-- all slots cleared -/
def xl_clr : Nat → Int32 := fun x => if x < 1024 then 2147483647 else 0
theorem xl_clr1 {x : Nat} (h : x < 1024) : xl_clr x = 2147483647 := if_pos h
theorem xl_cw {post : St2 → Prop} {fn fm fs fe fr : Int32} {ds ho pa tD tH : Nat → Int32} (hp : post (fn, fm, fs, fe, fr, xl_clr, ds, ho, pa, tD, tH)) : ∀ e i, i + e = 1024 → ∀ n, e < n → ∀ W : Nat → Int32, (∀ x, (x < i → W x = 2147483647) ∧ (i ≤ x → W x = 0)) → wX_clearWeights_2 post fn fm fs fe fr n (nI i) W ds ho pa tD tH := by
  intro e
  induction e with
  | zero =>
    intro i hi n hn W hz
    obtain ⟨n', rfl⟩ : ∃ n', n = n' + 1 := ⟨n - 1, by omega⟩
    have hi2 : i = 1024 := by omega
    subst hi2
    have eW : W = xl_clr := by
      funext x
      unfold xl_clr
      by_cases c : x < 1024
      · rw [if_pos c]; exact (hz x).1 c
      · rw [if_neg c]; exact (hz x).2 (by omega)
    rw [eW]
    exact br_t (nI_le (a := 1024) (b := 1024) (Nat.le_refl _) (by decide)) hp
  | succ e ih =>
    intro i hi n hn W hz
    obtain ⟨n', rfl⟩ : ∃ n', n = n' + 1 := ⟨n - 1, by omega⟩
    have hk : i < 1024 := by omega
    refine br_f (nI_ge (b := 1024) hk (by decide)) ⟨xn_v hk, nm_r (show upd W (nI i).toNatClampNeg 2147483647 = upd W i 2147483647 by rw [xn_c hk]) (nm_r (nI_1 i) (ih (i + 1) (by omega) n' (by omega) _ fun x => ⟨fun hx => ?_, fun hx => ?_⟩))⟩
    · by_cases c : x = i
      · rw [c]; exact pk_us
      · rw [pk_un c]; exact (hz x).1 (by omega)
    · rw [pk_un (by omega)]; exact (hz x).2 (by omega)
end
end
section
/-! what the settled state is like, where no negative cycle is reached -/
section
variable {N s u v k : Nat} {c : Int} {W ds ho pa : Nat → Int32}
theorem ph_no (hW : dq_gr W) (hN : N ≤ 32) (hs : s < N) (h : dq_ok W N s) : ∀ k, k < 1024 → ¬ dq_imp W N (dq_seq W N s (1024 * N)) k := by
  have q := dq_okq hW hN hs h
  have e := (dq_later (j' := N) q (by omega)).1
  intro k hk
  rw [e]
  exact (dq_const q).1 k hk
theorem ph_set (hW : dq_gr W) (hN : N ≤ 32) (hs : s < N) (h : sp_best (dq_E W N) (dq_w W) s v k c) : dq_R W N s (1024 * N) v ∧ dq_D W N s (1024 * N) v = c ∧ dq_H W N s (1024 * N) v = k := by
  have l := sp_len hs (fun u v e => ⟨e.1, e.2.1⟩) h
  exact sp_settle hN (fun u v e => ⟨e.1, e.2.1⟩) dq_R0 dq_D0 (dq_step hW) (N - 1) k v c h (by omega) (1024 * N) (by omega) (by omega)
theorem ph_01 (hW : dq_gr W) (hN : N ≤ 32) (i : Nat) : (dq_seq W N s (1024 * N)).1 i = 0 ∨ (dq_seq W N s (1024 * N)).1 i = 1 := by
  rcases dq_bdT (N := N) (s := s) hW (1024 * N) (by omega) i with z | z
  · exact Or.inl z
  · exact Or.inr z.1
theorem ph_src (hW : dq_gr W) (hN : N ≤ 32) (hs : s < N) (h : dq_ok W N s) : (dq_seq W N s (1024 * N)).1 s = 1 ∧ (dq_seq W N s (1024 * N)).2.1 s = 0 ∧ (dq_seq W N s (1024 * N)).2.2 s = 0 := by
  obtain ⟨Q, f, q1, q2⟩ := h
  have hb : sp_best (dq_E W N) (dq_w W) s s 0 0 := ⟨⟨rfl, rfl⟩, fun k' c' hk => by
    have z := (sp_lb q1 q2 k' s c' hk).2
    omega⟩
  obtain ⟨a1, a2, a3⟩ := ph_set hW hN hs hb
  rcases dq_bdT (N := N) (s := s) hW (1024 * N) (by omega) s with z | ⟨z0, _, _, z3, _⟩
  · exact absurd z a1
  · refine ⟨z0, Int32.toInt_inj.mp ?_, Int32.toInt_inj.mp ?_⟩
    · rw [dq_t0]; exact a2
    · unfold dq_H at a3
      rw [dq_t0]
      omega
theorem ph_edge (hW : dq_gr W) (hN : N ≤ 32) (hs : s < N) (h : dq_ok W N s) (hu : u < N) (hv : v < N) (he : ¬ W (32 * u + v) = 2147483647) (hr : (dq_seq W N s (1024 * N)).1 u = 1) : (dq_seq W N s (1024 * N)).1 v = 1 ∧ ((dq_seq W N s (1024 * N)).2.1 v).toInt ≤ ((dq_seq W N s (1024 * N)).2.1 u).toInt + (W (32 * u + v)).toInt := by
  have n := ph_no hW hN hs h (32 * u + v) (by omega)
  have bd := dq_bdT (N := N) (s := s) hW (1024 * N) (by omega)
  generalize dq_seq W N s (1024 * N) = q at n hr bd ⊢
  have hr0 : ¬ q.1 u = 0 := by rw [hr]; exact yn_10
  obtain ⟨a1, _⟩ := dq_sums hW (by omega) (by omega) bd he hr0
  have eu : (32 * u + v) / 32 = u := by omega
  have ev : (32 * u + v) % 32 = v := by omega
  unfold dq_imp at n
  rw [eu, ev] at n
  rcases bd v with z | ⟨z, _⟩
  · exact absurd ⟨hu, hv, he, hr0, Or.inl z⟩ n
  · refine ⟨z, ?_⟩
    have m : ¬ q.2.1 u + W (32 * u + v) < q.2.1 v := fun y => n ⟨hu, hv, he, hr0, Or.inr (Or.inl y)⟩
    rw [Int32.lt_iff_toInt_lt, a1] at m
    omega
theorem ph_scan {q : dq_S} {v : Nat} : ∀ e a, (∃ u, a ≤ u ∧ u < a + e ∧ rq_tight W q u v) → ∃ p, a ≤ p ∧ p < a + e ∧ rq_scan W q v e a = nI p ∧ rq_tight W q p v := by
  intro e
  induction e with
  | zero =>
    intro a h
    obtain ⟨u, h1, h2, _⟩ := h
    omega
  | succ e ih =>
    intro a h
    by_cases c : rq_tight W q a v
    · exact ⟨a, Nat.le_refl _, by omega, rq_scT c, c⟩
    · obtain ⟨u, h1, h2, h3⟩ := h
      have hne : u ≠ a := fun z => c (by rw [← z]; exact h3)
      obtain ⟨p, p1, p2, p3, p4⟩ := ih (a + 1) ⟨u, by omega, by omega, h3⟩
      exact ⟨p, by omega, by omega, by rw [rq_scF c]; exact p3, p4⟩
theorem ph_par (hW : dq_gr W) (hN : N ≤ 32) (hs : s < N) (h : dq_ok W N s) (hv : v < N) (hvs : ¬ v = s) (hr : (dq_seq W N s (1024 * N)).1 v = 1) : ∃ p, p < N ∧ rq_par W N s (dq_seq W N s (1024 * N)) v = nI p ∧ rq_tight W (dq_seq W N s (1024 * N)) p v := by
  have hr0 : ¬ (dq_seq W N s (1024 * N)).1 v = 0 := by rw [hr]; exact yn_10
  have bd := dq_bdT (N := N) (s := s) hW (1024 * N) (by omega)
  obtain ⟨Q, f, q1, q2⟩ := h
  have wv := sp_sound dq_D0 (dq_step (N := N) (s := s) hW) (1024 * N) (by omega) v hr0
  obtain ⟨k, c, hb⟩ := sp_bestE q1 q2 wv
  obtain ⟨_, b2, b3⟩ := ph_set hW hN hs hb
  cases k with
  | zero =>
    have e : v = s ∧ c = 0 := hb.1
    exact absurd e.1 hvs
  | succ k =>
    obtain ⟨u, c', hb', he, hc⟩ := sp_prev hb
    obtain ⟨d1, d2, d3⟩ := ph_set hW hN hs hb'
    obtain ⟨e1, e2, e3⟩ := he
    unfold dq_R at d1
    unfold dq_D at b2 d2
    unfold dq_H at b3 d3
    unfold dq_w at hc
    obtain ⟨a1, a2, _, _, u3, _, _, _⟩ := dq_sums hW (by omega) (by omega) bd e3 d1
    obtain ⟨_, _, _, v3, _⟩ := (bd v).resolve_left hr0
    have t : rq_tight W (dq_seq W N s (1024 * N)) u v := by
      refine ⟨e3, d1, Int32.toInt_inj.mp ?_, Int32.toInt_inj.mp ?_⟩
      · rw [a1]; omega
      · rw [a2]; omega
    obtain ⟨p, _, p2, p3, p4⟩ := ph_scan N 0 ⟨u, Nat.zero_le _, by omega, t⟩
    refine ⟨p, by omega, ?_, p4⟩
    unfold rq_par
    rw [if_neg hvs, if_neg hr0]
    exact p3
/-- long sums of ints do not wrap -/
theorem ph_l (a b : Int32) : (a.toInt64 + b.toInt64).toInt = a.toInt + b.toInt := by
  have a1 := a.toInt_lt
  have a2 := a.le_toInt
  have b1 := b.toInt_lt
  have b2 := b.le_toInt
  rw [Int64.toInt_add, Int32.toInt_toInt64, Int32.toInt_toInt64]
  exact Int.bmod_eq_of_le (by omega) (by omega)
theorem ph_leq {a b c : Int32} (h : a.toInt + b.toInt = c.toInt) : a.toInt64 + b.toInt64 = c.toInt64 := by
  apply Int64.toInt_inj.mp
  rw [ph_l, Int32.toInt_toInt64]
  exact h
theorem ph_lle {a b c : Int32} (h : c.toInt ≤ a.toInt + b.toInt) : c.toInt64 ≤ a.toInt64 + b.toInt64 := by
  rw [Int64.le_iff_toInt_le, ph_l, Int32.toInt_toInt64]
  exact h
theorem ph_l1 {a c : Int32} (h : a.toInt + 1 = c.toInt) : a.toInt64 + 1 = c.toInt64 := by
  have e : (1 : Int64) = (1 : Int32).toInt64 := by decide
  rw [e]
  exact ph_leq (by rw [dq_t1]; exact h)
end
end
section
/-! the law's valid, over an object as it is between calls -/
section
variable {N s i j u v : Nat} {fm fe fr : Int32} {W ds ho pa tD tH : Nat → Int32}
/-- what holds of an object between calls -/
def pv_ok (W : Nat → Int32) (N s : Nat) (ds ho pa : Nat → Int32) : Prop := 2 ≤ N ∧ N ≤ 32 ∧ s < N ∧ dq_gr W ∧ dq_ok W N s ∧ xf_ok W N s ds ho pa
theorem pv_r {post : Int32 → Prop} (I : pv_ok W N s ds ho pa) (hi : i < N) (hp : post ((dq_seq W N s (1024 * N)).1 i)) : wpX_isReachable post (nI N, fm, nI s, fe, fr, W, ds, ho, pa, tD, tH) (nI i) := by
  obtain ⟨n2, hN, hs, hW, hok, hf⟩ := I
  have bd := dq_bdT (N := N) (s := s) hW (1024 * N) (by omega)
  rcases hf.1 i hi with ⟨e, e2, _⟩ | ⟨e, e2, _⟩
  · exact xi_o hN hi (fun _ => by rw [e] at hp; exact hp) (fun z => absurd e2 z)
  · exact xi_o hN hi (fun z => absurd (e2.symm.trans z) (xe_ne (by omega) bd e)) (fun _ => by rw [e] at hp; exact hp)
theorem pv_0 (I : pv_ok W N s ds ho pa) (hi : i < N) (h : (dq_seq W N s (1024 * N)).1 i = 0) : ds i = 2147483647 ∧ ho i = -1 ∧ pa i = -1 := by
  obtain ⟨n2, hN, hs, hW, hok, hf⟩ := I
  rcases hf.1 i hi with ⟨_, e2, e3⟩ | ⟨e, _, _⟩
  · refine ⟨e2, e3, ?_⟩
    rw [hf.2 i hi]
    unfold rq_par
    by_cases c : i = s
    · rw [if_pos c]
    · rw [if_neg c, if_pos h]
  · rw [e] at h
    exact absurd h yn_10
theorem pv_1 (I : pv_ok W N s ds ho pa) (hi : i < N) (h : (dq_seq W N s (1024 * N)).1 i = 1) : ds i = (dq_seq W N s (1024 * N)).2.1 i ∧ ho i = (dq_seq W N s (1024 * N)).2.2 i := by
  obtain ⟨n2, hN, hs, hW, hok, hf⟩ := I
  rcases hf.1 i hi with ⟨e, _, _⟩ | ⟨_, e2, e3⟩
  · rw [h] at e
    exact absurd e yn_10
  · exact ⟨e2, e3⟩
theorem pv_e {post : Int32 → Prop} (hN : N ≤ 32) (hi : i < N) (hj : j < N) (h0 : W (32 * i + j) = 2147483647 → post 0) (h1 : ¬ W (32 * i + j) = 2147483647 → post 1) : wpX_hasEdge post (nI N, fm, nI s, fe, fr, W, ds, ho, pa, tD, tH) (nI i) (nI j) := by
  unfold wpX_hasEdge
  exact xo_o hN hi hj ⟨h0, h1⟩
theorem pv_153 {post : Int32 → Prop} (I : pv_ok W N s ds ho pa) (hp : post 1) : ∀ e x, x + e = N → ∀ n, e < n → wL_valid_153 post (nI N) (nI s) (nI N) fm (nI s) fe fr W ds ho pa tD tH n (nI x) := by
  have J := I
  obtain ⟨n2, hN, hs, hW, hok, hf⟩ := J
  intro e
  induction e with
  | zero =>
    intro x hx n hn
    obtain ⟨n', rfl⟩ : ∃ n', n = n' + 1 := ⟨n - 1, by omega⟩
    exact br_t (nI_le (by omega) (by omega)) hp
  | succ e ih =>
    intro x hx n hn
    obtain ⟨n', rfl⟩ : ∃ n', n = n' + 1 := ⟨n - 1, by omega⟩
    have hxN : x < N := by omega
    have z := ih (x + 1) (by omega) n' (by omega)
    refine br_f (nI_ge (by omega) (by omega)) (pv_r I hxN ?_)
    rcases ph_01 (s := s) hW hN x with r0 | r1
    · obtain ⟨d0, h0, p0⟩ := pv_0 I hxN r0
      refine br_t r0 (xh_o hN hxN (br_t d0 (xj_o hN hxN (br_t h0 (xm_o hN hxN (br_t p0 (nm_r (nI_1 x) z)))))))
    · refine br_f (by rw [r1]; exact yn_10) ?_
      by_cases c : x = s
      · exact br_t (by rw [c]) (nm_r (nI_1 x) z)
      · obtain ⟨p, hp', ep, t1, t2, t3, t4⟩ := ph_par hW hN hs hok hxN c r1
        have q1 : (dq_seq W N s (1024 * N)).1 p = 1 := (ph_01 hW hN p).resolve_left t2
        obtain ⟨dx, hx'⟩ := pv_1 I hxN r1
        obtain ⟨dp, hp''⟩ := pv_1 I hp' q1
        have bd := dq_bdT (N := N) (s := s) hW (1024 * N) (by omega)
        obtain ⟨a1, a2, _⟩ := dq_sums hW (by omega) (by omega) bd t1 t2
        have s1 : (ds p).toInt64 + (W (32 * p + x)).toInt64 = (ds x).toInt64 := ph_leq (by rw [dp, dx, ← a1, t3])
        have s2 : (ho p).toInt64 + 1 = (ho x).toInt64 := ph_l1 (by rw [hp'', hx', ← a2, t4])
        refine br_f (fun y => c ((nI_eq (by omega) (by omega)).mp y)) (xm_o hN hxN ?_)
        rw [hf.2 x hxN, ep]
        refine br_f (nI_pos (by omega)) (br_t (nI_lt hp' (by omega)) ?_)
        refine pv_e hN hp' hxN (fun y => absurd y t1) (fun _ => br_f yn_10 ?_)
        refine pv_r I hp' (br_f (by rw [q1]; exact yn_10) ?_)
        refine xh_o hN hp' (xo_o hN hp' hxN (xh_o hN hxN (br_t s1 ?_)))
        exact xj_o hN hp' (xj_o hN hxN (br_t s2 (nm_r (nI_1 x) z)))
theorem pv_77 {post : Int32 → Prop} {J58 : Int32 → Prop} (I : pv_ok W N s ds ho pa) (hu : u < N) (hr : (dq_seq W N s (1024 * N)).1 u = 1) (hJ : J58 (nI (u + 1))) : ∀ e x, x + e = N → ∀ n, e < n → wL_valid_77 post J58 (nI N) (nI s) (nI u) (nI N) fm (nI s) fe fr W ds ho pa tD tH n (nI x) := by
  have J := I
  obtain ⟨n2, hN, hs, hW, hok, hf⟩ := J
  intro e
  induction e with
  | zero =>
    intro x hx n hn
    obtain ⟨n', rfl⟩ : ∃ n', n = n' + 1 := ⟨n - 1, by omega⟩
    exact br_t (nI_le (by omega) (by omega)) (nm_r (nI_1 u) hJ)
  | succ e ih =>
    intro x hx n hn
    obtain ⟨n', rfl⟩ : ∃ n', n = n' + 1 := ⟨n - 1, by omega⟩
    have hxN : x < N := by omega
    have z := ih (x + 1) (by omega) n' (by omega)
    refine br_f (nI_ge (by omega) (by omega)) (pv_e hN hu hxN (fun _ => br_t rfl (nm_r (nI_1 x) z)) (fun c => br_f yn_10 ?_))
    obtain ⟨r1, le⟩ := ph_edge hW hN hs hok hu hxN c hr
    obtain ⟨dx, _⟩ := pv_1 I hxN r1
    obtain ⟨du, _⟩ := pv_1 I hu hr
    refine pv_r I hxN (br_f (by rw [r1]; exact yn_10) ?_)
    refine xh_o hN hu (xo_o hN hu hxN (nm_e ?_))
    exact xh_o hN hxN (br_t (ph_lle (by rw [dx, du]; exact le)) (nm_r (nI_1 x) z))
theorem pv_58 {post : Int32 → Prop} (I : pv_ok W N s ds ho pa) (hp : post 1) : ∀ e x, x + e = N → ∀ n, e < n → wL_valid_58 post (nI N) (nI s) (nI N) fm (nI s) fe fr W ds ho pa tD tH n (nI x) := by
  have J := I
  obtain ⟨n2, hN, hs, hW, hok, hf⟩ := J
  intro e
  induction e with
  | zero =>
    intro x hx n hn
    obtain ⟨n', rfl⟩ : ∃ n', n = n' + 1 := ⟨n - 1, by omega⟩
    exact br_t (nI_le (by omega) (by omega)) ⟨N + 1, pv_153 I hp N 0 (by omega) (N + 1) (by omega)⟩
  | succ e ih =>
    intro x hx n hn
    obtain ⟨n', rfl⟩ : ∃ n', n = n' + 1 := ⟨n - 1, by omega⟩
    have hxN : x < N := by omega
    have z := ih (x + 1) (by omega) n' (by omega)
    refine br_f (nI_ge (by omega) (by omega)) (pv_r I hxN ?_)
    rcases ph_01 (s := s) hW hN x with r0 | r1
    · exact br_t r0 (nm_r (nI_1 x) z)
    · exact br_f (by rw [r1]; exact yn_10) ⟨N + 1, pv_77 I hxN r1 z N 0 (by omega) (N + 1) (by omega)⟩
/-- valid answers 1 -/
theorem pv_valid {post : Int32 → Prop} (I : pv_ok W N s ds ho pa) (hp : post 1) : wpL_valid post (nI N, fm, nI s, fe, fr, W, ds, ho, pa, tD, tH) := by
  have J := I
  obtain ⟨n2, hN, hs, hW, hok, hf⟩ := J
  obtain ⟨s1, s2, s3⟩ := ph_src hW hN hs hok
  obtain ⟨d1, d2⟩ := pv_1 I hs s1
  have ep : pa s = -1 := by
    rw [hf.2 s hs]
    exact if_pos rfl
  unfold wpL_valid wpX_vertexCount wpX_getSource
  refine br_f (nI_pos (by omega)) (br_t (nI_lt hs (by omega)) ?_)
  refine pv_r I hs (br_f (by rw [s1]; exact yn_10) ?_)
  refine xh_o hN hs (br_t (by rw [d1]; exact s2) ?_)
  refine xj_o hN hs (br_t (by rw [d2]; exact s3) ?_)
  exact xm_o hN hs (br_t ep ⟨N + 1, pv_58 I hp N 0 (by omega) (N + 1) (by omega)⟩)
end
end
section
/-! the law's same, over two objects of one graph and source -/
section
variable {N s u v x : Nat} {fn fm fs fe fr : Int32} {W ds ho pa tD tH ds' ho' pa' tD' tH' : Nat → Int32}
theorem px_vc {post : Int32 → Prop} (h : post fn) : wpX_vertexCount post (fn, fm, fs, fe, fr, W, ds, ho, pa, tD, tH) := h
theorem px_gs {post : Int32 → Prop} (h : post fs) : wpX_getSource post (fn, fm, fs, fe, fr, W, ds, ho, pa, tD, tH) := h
theorem px_ec {post : Int32 → Prop} (h : post fe) : wpX_edgeCount post (fn, fm, fs, fe, fr, W, ds, ho, pa, tD, tH) := h
theorem px_rc {post : Int32 → Prop} (h : post fr) : wpX_reachableCount post (fn, fm, fs, fe, fr, W, ds, ho, pa, tD, tH) := h
theorem ps_124 {post : Int32 → Prop} {J56 : Int32 → Prop} (hN : N ≤ 32) (hv : v < N) (hJ : J56 (nI (v + 1))) : ∀ e x, x + e = N → ∀ n, e < n → wL_same_124 post J56 (nI N) (nI v) (nI N) fm (nI s) fe fr W ds ho pa tD tH (nI N) fm (nI s) fe fr W ds' ho' pa' tD' tH' n (nI x) := by
  intro e
  induction e with
  | zero =>
    intro x hx n hn
    obtain ⟨n', rfl⟩ : ∃ n', n = n' + 1 := ⟨n - 1, by omega⟩
    exact br_t (nI_le (by omega) (by omega)) (nm_r (nI_1 v) hJ)
  | succ e ih =>
    intro x hx n hn
    obtain ⟨n', rfl⟩ : ∃ n', n = n' + 1 := ⟨n - 1, by omega⟩
    have hxN : x < N := by omega
    have z := ih (x + 1) (by omega) n' (by omega)
    refine br_f (nI_ge (by omega) (by omega)) (pv_e hN hxN hv (fun c => pv_e hN hxN hv (fun _ => br_t rfl ?_) (fun y => absurd c y)) (fun c => pv_e hN hxN hv (fun y => absurd y c) (fun _ => br_t rfl ?_)))
    · exact xo_o hN hxN hv (xo_o hN hxN hv (br_t rfl (nm_r (nI_1 x) z)))
    · exact xo_o hN hxN hv (xo_o hN hxN hv (br_t rfl (nm_r (nI_1 x) z)))
theorem ps_eq (I : pv_ok W N s ds ho pa) (I' : pv_ok W N s ds' ho' pa') (hx : x < N) : ds x = ds' x ∧ ho x = ho' x ∧ pa x = pa' x := by
  have p : pa x = pa' x := (I.2.2.2.2.2.2 x hx).trans (I'.2.2.2.2.2.2 x hx).symm
  rcases ph_01 (s := s) I.2.2.2.1 I.2.1 x with r | r
  · obtain ⟨a, b, _⟩ := pv_0 I hx r
    obtain ⟨a', b', _⟩ := pv_0 I' hx r
    exact ⟨a.trans a'.symm, b.trans b'.symm, p⟩
  · obtain ⟨a, b⟩ := pv_1 I hx r
    obtain ⟨a', b'⟩ := pv_1 I' hx r
    exact ⟨a.trans a'.symm, b.trans b'.symm, p⟩
theorem ps_56 {post : Int32 → Prop} (I : pv_ok W N s ds ho pa) (I' : pv_ok W N s ds' ho' pa') (hp : post 1) : ∀ e x, x + e = N → ∀ n, e < n → wL_same_56 post (nI N) (nI N) fm (nI s) fe fr W ds ho pa tD tH (nI N) fm (nI s) fe fr W ds' ho' pa' tD' tH' n (nI x) := by
  have hN := I.2.1
  intro e
  induction e with
  | zero =>
    intro x hx n hn
    obtain ⟨n', rfl⟩ : ∃ n', n = n' + 1 := ⟨n - 1, by omega⟩
    exact br_t (nI_le (by omega) (by omega)) hp
  | succ e ih =>
    intro x hx n hn
    obtain ⟨n', rfl⟩ : ∃ n', n = n' + 1 := ⟨n - 1, by omega⟩
    have hxN : x < N := by omega
    have z := ih (x + 1) (by omega) n' (by omega)
    obtain ⟨e1, e2, e3⟩ := ps_eq I I' hxN
    refine br_f (nI_ge (by omega) (by omega)) (pv_r I hxN (pv_r I' hxN (br_t rfl ?_)))
    refine xh_o hN hxN (xh_o hN hxN (br_t e1 ?_))
    refine xj_o hN hxN (xj_o hN hxN (br_t e2 ?_))
    exact xm_o hN hxN (xm_o hN hxN (br_t e3 ⟨N + 1, ps_124 hN hxN z N 0 (by omega) (N + 1) (by omega)⟩))
/-- same answers 1 -/
theorem ps_same {post : Int32 → Prop} (I : pv_ok W N s ds ho pa) (I' : pv_ok W N s ds' ho' pa') (hp : post 1) : wpL_same post (nI N, fm, nI s, fe, fr, W, ds, ho, pa, tD, tH, nI N, fm, nI s, fe, fr, W, ds', ho', pa', tD', tH') := by
  unfold wpL_same
  refine px_vc (px_vc (br_t rfl ?_))
  refine px_gs (px_gs (br_t rfl ?_))
  refine px_ec (px_ec (br_t rfl ?_))
  refine px_rc (px_rc (br_t rfl ?_))
  exact ⟨N + 1, ps_56 I I' hp N 0 (by have := I.2.1; omega) (N + 1) (by omega)⟩
end
end
section
/-! the law's apply: one outcome for every object of a graph and source -/
section
variable {N s i j k u v : Nat} {fm fs fe fr w : Int32} {W ds ho pa tD tH : Nat → Int32}
theorem po_gr (hW : dq_gr W) (w5 : -1000 ≤ w.toInt) (w6 : w.toInt ≤ 1000) : dq_gr (upd W k w) := by
  intro x hx
  by_cases c : x = k
  · rw [c, pk_us]
    exact Or.inr ⟨w5, w6⟩
  · rw [pk_un c]
    exact hW x hx
theorem po_grM (hW : dq_gr W) : dq_gr (upd W k 2147483647) := by
  intro x hx
  by_cases c : x = k
  · rw [c, pk_us]
    exact Or.inl rfl
  · rw [pk_un c]
    exact hW x hx
theorem po_sub {x : Nat} (z : ¬ upd W k 2147483647 x = 2147483647) : upd W k 2147483647 x = W x := by
  by_cases c : x = k
  · rw [c] at z
    exact absurd pk_us z
  · exact pk_un c
/-- a call has one answer r and one new graph and source, whatever the object's arrays are -/
def po_out (M : (Int32 → St2 → Prop) → St2 → Prop) (N s : Nat) (fm fe : Int32) (W : Nat → Int32) : Prop :=
  ∃ (r : Int32) (s' : Nat) (fe' : Int32) (W' : Nat → Int32), s' < N ∧ dq_gr W' ∧ dq_ok W' N s' ∧ (r = 6 → s' = s ∧ fe' = fe ∧ W' = W) ∧ ∀ (post : Int32 → St2 → Prop) (ds ho pa tD tH : Nat → Int32), xf_ok W N s ds ho pa → (∀ ds ho pa tD tH : Nat → Int32, xf_ok W' N s' ds ho pa → post r (nI N, fm, nI s', fe', rq_cnt (dq_seq W' N s' (1024 * N)).1 N, W', ds, ho, pa, tD, tH)) → M post (nI N, fm, nI s, fe, rq_cnt (dq_seq W N s (1024 * N)).1 N, W, ds, ho, pa, tD, tH)
theorem po_add (hN : N ≤ 32) (hs : s < N) (hW : dq_gr W) (hok : dq_ok W N s) (hi : i < N) (hj : j < N) (w1 : ¬ w < -1000) (w2 : ¬ 1000 < w) (w5 : -1000 ≤ w.toInt) (w6 : w.toInt ≤ 1000) : po_out (fun post S => wpX_addEdge post S (nI i) (nI j) w) N s fm fe W := by
  by_cases c : W (32 * i + j) = 2147483647
  · by_cases f : fe < fm
    · have hW' := po_gr (k := 32 * i + j) hW w5 w6
      by_cases q : dq_ch (upd W (32 * i + j) w) N s (N - 1) 1024 = 0
      · exact ⟨0, s, fe + 1, upd W (32 * i + j) w, hs, hW', dq_qok hW' hN hs q, fun z => absurd z (by decide), fun post ds ho pa tD tH hf hp => xa_6 hN (by omega) hs hi hj w1 w2 c f hW' (fun z => absurd q z) (fun _ ds ho pa tD tH z => hp ds ho pa tD tH z)⟩
      · exact ⟨6, s, fe, W, hs, hW, hok, fun _ => ⟨rfl, rfl, rfl⟩, fun post ds ho pa tD tH hf hp => xa_6 hN (by omega) hs hi hj w1 w2 c f hW' (fun _ tD tH => hp ds ho pa tD tH hf) (fun z => absurd z q)⟩
    · exact ⟨5, s, fe, W, hs, hW, hok, fun _ => ⟨rfl, rfl, rfl⟩, fun post ds ho pa tD tH hf hp => xa_5 hN hi hj w1 w2 c f (hp ds ho pa tD tH hf)⟩
  · exact ⟨3, s, fe, W, hs, hW, hok, fun _ => ⟨rfl, rfl, rfl⟩, fun post ds ho pa tD tH hf hp => xa_4 hN hi hj w1 w2 c (hp ds ho pa tD tH hf)⟩
theorem po_setw (hN : N ≤ 32) (hs : s < N) (hW : dq_gr W) (hok : dq_ok W N s) (hi : i < N) (hj : j < N) (w1 : ¬ w < -1000) (w2 : ¬ 1000 < w) (w5 : -1000 ≤ w.toInt) (w6 : w.toInt ≤ 1000) : po_out (fun post S => wpX_setWeight post S (nI i) (nI j) w) N s fm fe W := by
  by_cases c : W (32 * i + j) = 2147483647
  · exact ⟨4, s, fe, W, hs, hW, hok, fun _ => ⟨rfl, rfl, rfl⟩, fun post ds ho pa tD tH hf hp => xb_4 hN hi hj w1 w2 c (hp ds ho pa tD tH hf)⟩
  · have hW' := po_gr (k := 32 * i + j) hW w5 w6
    by_cases q : dq_ch (upd W (32 * i + j) w) N s (N - 1) 1024 = 0
    · exact ⟨0, s, fe, upd W (32 * i + j) w, hs, hW', dq_qok hW' hN hs q, fun z => absurd z (by decide), fun post ds ho pa tD tH hf hp => xb_6 hN (by omega) hs hi hj w1 w2 c hW' (fun z => absurd q z) (fun _ ds ho pa tD tH z => hp ds ho pa tD tH z)⟩
    · exact ⟨6, s, fe, W, hs, hW, hok, fun _ => ⟨rfl, rfl, rfl⟩, fun post ds ho pa tD tH hf hp => xb_6 hN (by omega) hs hi hj w1 w2 c hW' (fun _ tD tH => hp ds ho pa tD tH hf) (fun z => absurd z q)⟩
theorem po_rem (hN : N ≤ 32) (hs : s < N) (hW : dq_gr W) (hok : dq_ok W N s) (hi : i < N) (hj : j < N) : po_out (fun post S => wpX_removeEdge post S (nI i) (nI j)) N s fm fe W := by
  by_cases c : W (32 * i + j) = 2147483647
  · exact ⟨4, s, fe, W, hs, hW, hok, fun _ => ⟨rfl, rfl, rfl⟩, fun post ds ho pa tD tH hf hp => xd_4 hN hi hj c (hp ds ho pa tD tH hf)⟩
  · exact ⟨0, s, fe - 1, upd W (32 * i + j) 2147483647, hs, po_grM hW, dq_okS hN (fun _ _ z => po_sub z) hok, fun z => absurd z (by decide), fun post ds ho pa tD tH hf hp => xd_6 hN (by omega) hs hi hj c (po_grM hW) (fun ds ho pa tD tH z => hp ds ho pa tD tH z)⟩
theorem po_src (hN : N ≤ 32) (hs : s < N) (hW : dq_gr W) (hok : dq_ok W N s) (hi : i < N) : po_out (fun post S => wpX_setSource post S (nI i)) N s fm fe W := by
  by_cases q : dq_ch W N i (N - 1) 1024 = 0
  · exact ⟨0, i, fe, W, hi, hW, dq_qok hW hN hi q, fun z => absurd z (by decide), fun post ds ho pa tD tH hf hp => xe_6 hN (by omega) hi hW (fun z => absurd q z) (fun _ ds ho pa tD tH z => hp ds ho pa tD tH z)⟩
  · exact ⟨6, s, fe, W, hs, hW, hok, fun _ => ⟨rfl, rfl, rfl⟩, fun post ds ho pa tD tH hf hp => xe_6 hN (by omega) hi hW (fun _ tD tH => hp ds ho pa tD tH hf) (fun z => absurd z q)⟩
/-! isolate -/
def po_fe (W : Nat → Int32) (k : Nat) (fe : Int32) : Int32 := if W k = 2147483647 then fe else fe - 1
theorem po_drop {post : St2 → Prop} (hk : k < 1024) (hp : post (nI N, fm, fs, po_fe W k fe, fr, upd W k 2147483647, ds, ho, pa, tD, tH)) : wpX_dropSlot post (nI N, fm, fs, fe, fr, W, ds, ho, pa, tD, tH) (nI k) := by
  have ck := xn_c hk
  unfold po_fe at hp
  by_cases c : W k = 2147483647
  · have e : upd W k 2147483647 = W := by
      funext x
      by_cases y : x = k
      · rw [y, pk_us, c]
      · rw [pk_un y]
    rw [if_pos c, e] at hp
    exact ⟨xn_v hk, br_t (by rw [ck]; exact c) hp⟩
  · rw [if_neg c] at hp
    exact ⟨xn_v hk, br_f (by rw [ck]; exact c) ⟨xn_v hk, nm_r (show upd W (nI k).toNatClampNeg 2147483647 = upd W k 2147483647 by rw [ck]) (nm_e hp)⟩⟩
theorem po_17 (hN : N ≤ 32) (hs : s < N) (hv : v < N) : ∀ e x, x + e = N → ∀ (W : Nat → Int32) (fe : Int32), dq_gr W → ∃ (W' : Nat → Int32) (fe' : Int32), dq_gr W' ∧ (∀ i, i < 1024 → ¬ W' i = 2147483647 → W' i = W i) ∧ ∀ (post : Int32 → St2 → Prop) (fm fr x2 : Int32) (ds ho pa tD tH : Nat → Int32) (n : Nat), e < n → (∀ ds ho pa tD tH : Nat → Int32, xf_ok W' N s ds ho pa → post (x2 - fe') (nI N, fm, nI s, fe', rq_cnt (dq_seq W' N s (1024 * N)).1 N, W', ds, ho, pa, tD, tH)) → wX_isolate_17 post (nI v) x2 n (nI x) (nI N) fm (nI s) fe fr W ds ho pa tD tH := by
  intro e
  induction e with
  | zero =>
    intro x hx W fe hW
    refine ⟨W, fe, hW, fun _ _ _ => rfl, ?_⟩
    intro post fm fr x2 ds ho pa tD tH n hn hp
    obtain ⟨n', rfl⟩ : ∃ n', n = n' + 1 := ⟨n - 1, by omega⟩
    refine br_t (nI_le (by omega) (by omega)) ?_
    exact xc_rec hN (by omega) hs hW fun ds ho pa tD tH z => hp ds ho pa tD tH z
  | succ e ih =>
    intro x hx W fe hW
    have hk1 : 32 * v + x < 1024 := by omega
    have hk2 : 32 * x + v < 1024 := by omega
    obtain ⟨W', fe', g, sub, hX⟩ := ih (x + 1) (by omega) (upd (upd W (32 * v + x) 2147483647) (32 * x + v) 2147483647) (po_fe (upd W (32 * v + x) 2147483647) (32 * x + v) (po_fe W (32 * v + x) fe)) (po_grM (po_grM hW))
    refine ⟨W', fe', g, ?_, ?_⟩
    · intro y hy z
      have z1 := sub y hy z
      have z2 := po_sub (W := upd W (32 * v + x) 2147483647) (k := 32 * x + v) (x := y) (by rw [← z1]; exact z)
      have z3 := po_sub (W := W) (k := 32 * v + x) (x := y) (by rw [← z2, ← z1]; exact z)
      rw [z1, z2, z3]
    · intro post fm fr x2 ds ho pa tD tH n hn hp
      obtain ⟨n', rfl⟩ : ∃ n', n = n' + 1 := ⟨n - 1, by omega⟩
      refine br_f (nI_ge (by omega) (by omega)) (xs_slot (po_drop hk1 ?_))
      refine xs_slot (po_drop hk2 ?_)
      exact nm_r (nI_1 x) (hX post fm fr x2 ds ho pa tD tH n' (by omega) hp)
theorem po_iso (hN : N ≤ 32) (hs : s < N) (hW : dq_gr W) (hok : dq_ok W N s) (hv : v < N) : ∃ (r : Int32) (fe' : Int32) (W' : Nat → Int32), dq_gr W' ∧ dq_ok W' N s ∧ ∀ (post : Int32 → St2 → Prop) (fm fr : Int32) (ds ho pa tD tH : Nat → Int32), (∀ ds ho pa tD tH : Nat → Int32, xf_ok W' N s ds ho pa → post r (nI N, fm, nI s, fe', rq_cnt (dq_seq W' N s (1024 * N)).1 N, W', ds, ho, pa, tD, tH)) → wpX_isolate post (nI N, fm, nI s, fe, fr, W, ds, ho, pa, tD, tH) (nI v) := by
  obtain ⟨W', fe', g, sub, hX⟩ := po_17 hN hs hv N 0 (by omega) W fe hW
  refine ⟨fe - fe', fe', W', g, dq_okS hN sub hok, ?_⟩
  intro post fm fr ds ho pa tD tH hp
  unfold wpX_isolate
  refine xv_o hN hv (br_f yn_10 ⟨N + 1, ?_⟩)
  exact hX post fm fr fe ds ho pa tD tH (N + 1) (by omega) hp
/-! apply -/
def po_app (op : Int32) (u v : Nat) (w : Int32) (N s : Nat) (fm fe : Int32) (W : Nat → Int32) : Prop :=
  ∃ (r : Int32) (s' : Nat) (fe' : Int32) (W' : Nat → Int32), s' < N ∧ dq_gr W' ∧ dq_ok W' N s' ∧ (r = 0 ∨ (r = 1 ∧ s' = s ∧ fe' = fe ∧ W' = W)) ∧ ∀ (post : Int32 → St2 → Prop) (ds ho pa tD tH : Nat → Int32), xf_ok W N s ds ho pa → (∀ ds ho pa tD tH : Nat → Int32, xf_ok W' N s' ds ho pa → post r (nI N, fm, nI s', fe', rq_cnt (dq_seq W' N s' (1024 * N)).1 N, W', ds, ho, pa, tD, tH)) → wpL_apply post (nI N, fm, nI s, fe, rq_cnt (dq_seq W N s (1024 * N)).1 N, W, ds, ho, pa, tD, tH) op (nI u) (nI v) w
def po_6 (r : Int32) : Int32 := if r = 6 then 1 else 0
theorem po_120 {post : Int32 → St2 → Prop} {r fn : Int32} (hp : post (po_6 r) (fn, fm, fs, fe, fr, W, ds, ho, pa, tD, tH)) : wL_apply_120 post r fn fm fs fe fr W ds ho pa tD tH := by
  unfold po_6 at hp
  by_cases c : r = 6
  · rw [if_pos c] at hp
    exact br_t c hp
  · rw [if_neg c] at hp
    exact br_f c hp
theorem po_r {r : Int32} {P : Prop} (h : r = 6 → P) : po_6 r = 0 ∨ (po_6 r = 1 ∧ P) := by
  unfold po_6
  by_cases c : r = 6
  · rw [if_pos c]; exact Or.inr ⟨rfl, h c⟩
  · rw [if_neg c]; exact Or.inl rfl
theorem po_apply (op : Int32) (hN : N ≤ 32) (hs : s < N) (hW : dq_gr W) (hok : dq_ok W N s) (hu : u < N) (hv : v < N) (w1 : ¬ w < -1000) (w2 : ¬ 1000 < w) (w5 : -1000 ≤ w.toInt) (w6 : w.toInt ≤ 1000) : po_app op u v w N s fm fe W := by
  have oA := po_add (fm := fm) (fe := fe) hN hs hW hok hu hv w1 w2 w5 w6
  have oS := po_setw (fm := fm) (fe := fe) hN hs hW hok hu hv w1 w2 w5 w6
  by_cases c0 : op = 0
  · obtain ⟨r, s', fe', W', q1, q2, q3, q4, q5⟩ := oA
    refine ⟨po_6 r, s', fe', W', q1, q2, q3, po_r q4, fun post ds ho pa tD tH hf hp => ?_⟩
    refine br_t c0 ?_
    unfold wL_apply_9
    exact q5 _ ds ho pa tD tH hf fun ds ho pa tD tH hf' => po_120 (hp ds ho pa tD tH hf')
  by_cases c1 : op = 1
  · obtain ⟨r, s', fe', W', q1, q2, q3, q4, q5⟩ := oA
    refine ⟨po_6 r, s', fe', W', q1, q2, q3, po_r q4, fun post ds ho pa tD tH hf hp => ?_⟩
    refine br_f c0 (br_t c1 ?_)
    unfold wL_apply_9
    exact q5 _ ds ho pa tD tH hf fun ds ho pa tD tH hf' => po_120 (hp ds ho pa tD tH hf')
  by_cases c2 : op = 2
  · obtain ⟨r, s', fe', W', q1, q2, q3, q4, q5⟩ := oS
    refine ⟨po_6 r, s', fe', W', q1, q2, q3, po_r q4, fun post ds ho pa tD tH hf hp => ?_⟩
    refine br_f c0 (br_f c1 (br_t c2 ?_))
    unfold wL_apply_33
    exact q5 _ ds ho pa tD tH hf fun ds ho pa tD tH hf' => po_120 (hp ds ho pa tD tH hf')
  by_cases c7 : op = 7
  · obtain ⟨r, s', fe', W', q1, q2, q3, q4, q5⟩ := oS
    refine ⟨po_6 r, s', fe', W', q1, q2, q3, po_r q4, fun post ds ho pa tD tH hf hp => ?_⟩
    refine br_f c0 (br_f c1 (br_f c2 (br_t c7 ?_)))
    unfold wL_apply_33
    exact q5 _ ds ho pa tD tH hf fun ds ho pa tD tH hf' => po_120 (hp ds ho pa tD tH hf')
  by_cases c3 : op = 3
  · obtain ⟨r, s', fe', W', q1, q2, q3, q4, q5⟩ := po_rem (fm := fm) (fe := fe) hN hs hW hok hu hv
    refine ⟨po_6 r, s', fe', W', q1, q2, q3, po_r q4, fun post ds ho pa tD tH hf hp => ?_⟩
    refine br_f c0 (br_f c1 (br_f c2 (br_f c7 (br_t c3 ?_))))
    exact q5 _ ds ho pa tD tH hf fun ds ho pa tD tH hf' => po_120 (hp ds ho pa tD tH hf')
  by_cases c4 : op = 4
  · obtain ⟨r, fe', W', q2, q3, q5⟩ := po_iso (fe := fe) hN hs hW hok hu
    refine ⟨0, s, fe', W', hs, q2, q3, Or.inl rfl, fun post ds ho pa tD tH hf hp => ?_⟩
    refine br_f c0 (br_f c1 (br_f c2 (br_f c7 (br_f c3 (br_t c4 ?_)))))
    exact q5 _ fm _ ds ho pa tD tH fun ds ho pa tD tH hf' => hp ds ho pa tD tH hf'
  by_cases c5 : op = 5
  · obtain ⟨r, s', fe', W', q1, q2, q3, q4, q5⟩ := po_src (fm := fm) (fe := fe) hN hs hW hok hu
    refine ⟨po_6 r, s', fe', W', q1, q2, q3, po_r q4, fun post ds ho pa tD tH hf hp => ?_⟩
    refine br_f c0 (br_f c1 (br_f c2 (br_f c7 (br_f c3 (br_f c4 (br_t c5 ?_))))))
    exact q5 _ ds ho pa tD tH hf fun ds ho pa tD tH hf' => po_120 (hp ds ho pa tD tH hf')
  by_cases e : W (32 * u + v) = 2147483647
  · obtain ⟨r, s', fe', W', q1, q2, q3, q4, q5⟩ := oA
    refine ⟨po_6 r, s', fe', W', q1, q2, q3, po_r q4, fun post ds ho pa tD tH hf hp => ?_⟩
    refine br_f c0 (br_f c1 (br_f c2 (br_f c7 (br_f c3 (br_f c4 (br_f c5 ?_))))))
    refine pv_e hN hu hv (fun _ => br_t rfl ?_) (fun z => absurd e z)
    exact q5 _ ds ho pa tD tH hf fun ds ho pa tD tH hf' => po_120 (hp ds ho pa tD tH hf')
  · obtain ⟨r, s', fe', W', q1, q2, q3, q4, q5⟩ := oS
    refine ⟨po_6 r, s', fe', W', q1, q2, q3, po_r q4, fun post ds ho pa tD tH hf hp => ?_⟩
    refine br_f c0 (br_f c1 (br_f c2 (br_f c7 (br_f c3 (br_f c4 (br_f c5 ?_))))))
    refine pv_e hN hu hv (fun z => absurd z e) (fun _ => br_f yn_10 ?_)
    exact q5 _ ds ho pa tD tH hf fun ds ho pa tD tH hf' => po_120 (hp ds ho pa tD tH hf')
end
end
section
/-! the law -/
section
variable {N s L : Nat} {fm : Int32} {xs : Nat → Int32}
theorem pz_cell {post : Int32 → Prop} {j : Nat} (hL : L ≤ 260) (hj : j ≤ 400) (hp : ∀ y, post y) : wpL_cell post L xs () (nI j) := by
  by_cases c : L ≤ j
  · exact br_t (nI_le c (by omega)) (hp _)
  · exact br_f (nI_ge (by omega) (by omega)) ⟨vp_in_nI (by omega) (by omega), hp _⟩
theorem pz_mod {post : Int32 → Prop} {M : Nat} (h0 : 0 < M) (hM : M ≤ 400) (x : Int32) (hp : ∀ t, t < M → post (nI t)) : wpL_mod post () x (nI M) := by
  have hM' : (nI M).toInt = (M : Int) := nI_toInt (by omega)
  have e := rem_toInt x (nI M)
  rw [hM'] at e
  obtain ⟨b1, b2⟩ := tmod_bounds (a := x.toInt) (M := (M : Int)) (by omega)
  refine ⟨nI_ne0 h0 (by omega), nm_e ?_⟩
  generalize x - x / nI M * nI M = y at e ⊢
  by_cases c : (0 : Int32) ≤ y
  · have c' : ¬ y < 0 := Int32.not_lt.mpr c
    obtain ⟨t, ht, rfl⟩ := nI_of c'
    rw [nI_toInt ht] at e
    exact br_t c (hp t (by omega))
  · refine br_f c ?_
    rw [Int32.le_iff_toInt_le, dq_t0] at c
    have a := dq_add (a := y) (b := nI M) (by omega) (by omega)
    have z : y + nI M = nI (y.toInt + (M : Int)).toNat := by
      apply Int32.toInt_inj.mp
      rw [a, hM', nI_toInt (by omega)]
      omega
    rw [z]
    exact hp _ (by omega)
theorem pz_loop {kc ks : Nat} (hL : L ≤ 260) (n2 : 2 ≤ N) (hN : N ≤ 32) : ∀ e i, L ≤ i + 4 * e → i ≤ 300 → ∀ n, e < n → ∀ (s : Nat) (fe : Int32) (W ds ho pa tD tH ds' ho' pa' tD' tH' : Nat → Int32), pv_ok W N s ds ho pa → pv_ok W N s ds' ho' pa' → wL_law_69 (fun r => r = 1) L xs kc ks n (nI i) (nI N) fm (nI s) fe (rq_cnt (dq_seq W N s (1024 * N)).1 N) W ds ho pa tD tH (nI N) fm (nI s) fe (rq_cnt (dq_seq W N s (1024 * N)).1 N) W ds' ho' pa' tD' tH' := by
  intro e
  induction e with
  | zero =>
    intro i h1 h2 n hn s fe W ds ho pa tD tH ds' ho' pa' tD' tH' I I'
    obtain ⟨n', rfl⟩ : ∃ n', n = n' + 1 := ⟨n - 1, by omega⟩
    exact br_t (nI_le (by omega) (by omega)) rfl
  | succ e ih =>
    intro i h1 h2 n hn s fe W ds ho pa tD tH ds' ho' pa' tD' tH' I I'
    obtain ⟨n', rfl⟩ : ∃ n', n = n' + 1 := ⟨n - 1, by omega⟩
    by_cases c : L ≤ i
    · exact br_t (nI_le c (by omega)) rfl
    have e1 : nI i + 1 = nI (i + 1) := nI_add i 1
    have e2 : nI i + 2 = nI (i + 2) := nI_add i 2
    have e3 : nI i + 3 = nI (i + 3) := nI_add i 3
    have e4 : nI i + 4 = nI (i + 4) := nI_add i 4
    obtain ⟨_, _, hs, hW, hok, hf⟩ := I
    have hf' := I'.2.2.2.2.2
    refine br_f (nI_ge (by omega) (by omega)) (px_vc ?_)
    refine br_f (nI_nlt (b := 2) n2 (by omega)) (br_t (nI_le (b := 32) hN (by omega)) ?_)
    refine pz_cell hL (by omega) fun y0 => pz_mod (M := 8) (by decide) (by decide) y0 fun op _ => ?_
    rw [e1]
    refine pz_cell hL (by omega) fun y1 => pz_mod (by omega) (by omega) y1 fun u hu => ?_
    rw [e2]
    refine pz_cell hL (by omega) fun y2 => pz_mod (by omega) (by omega) y2 fun v hv => ?_
    rw [e3]
    refine pz_cell hL (by omega) fun y3 => pz_mod (M := 241) (by decide) (by decide) y3 fun t ht => ?_
    refine fun w ew => ?_
    have w0 : w.toInt = (t : Int) - 80 := by
      have t80 : (80 : Int32).toInt = 80 := by decide
      rw [ew, Int32.toInt_sub, nI_toInt (by omega), t80]
      exact Int.bmod_eq_of_le (by omega) (by omega)
    have w1 : ¬ w < -1000 := by
      rw [Int32.lt_iff_toInt_lt, w0, show (-1000 : Int32).toInt = -1000 by decide]
      omega
    have w2 : ¬ 1000 < w := by
      rw [Int32.lt_iff_toInt_lt, w0, show (1000 : Int32).toInt = 1000 by decide]
      omega
    obtain ⟨r, s', fe', W', q1, q2, q3, q4, q5⟩ := po_apply (fm := fm) (fe := fe) (nI op) hN hs hW hok hu hv w1 w2 (by omega) (by omega)
    refine q5 _ ds ho pa tD tH hf fun ds1 ho1 pa1 tD1 tH1 hf1 => ?_
    have I1 : pv_ok W' N s' ds1 ho1 pa1 := ⟨n2, hN, q1, q2, q3, hf1⟩
    rcases q4 with r0 | ⟨r1, z1, z2, z3⟩
    · refine br_t r0 ?_
      refine q5 _ ds' ho' pa' tD' tH' hf' fun ds2 ho2 pa2 tD2 tH2 hf2 => ?_
      refine pv_valid I1 (br_f yn_10 (nm_r e4 ?_))
      exact ih (i + 4) (by omega) (by omega) n' (by omega) s' fe' W' ds1 ho1 pa1 tD1 tH1 ds2 ho2 pa2 tD2 tH2 I1 ⟨n2, hN, q1, q2, q3, hf2⟩
    · subst z1 z2 z3
      refine br_f (by rw [r1]; exact yn_10) ?_
      refine ps_same I1 I' (br_f yn_10 ?_)
      refine pv_valid I1 (br_f yn_10 (nm_r e4 ?_))
      exact ih (i + 4) (by omega) (by omega) n' (by omega) _ _ _ ds1 ho1 pa1 tD1 tH1 ds' ho' pa' tD' tH' I1 I'
theorem pz_clr : dq_gr xl_clr := fun _ hx => Or.inl (xl_clr1 hx)
theorem pz_init {post : St2 → Prop} {k0 k1 k2 : Int32} {N s m : Nat} (hN0 : 2 ≤ N) (hN : N ≤ 32) (hs : s < N) (h0 : xl_is k0 2 32 N) (h1 : xl_is k1 0 (N - 1) s) (h2 : xl_is k2 1 128 m)
    (hp : ∀ ds ho pa tD tH : Nat → Int32, xf_ok xl_clr N s ds ho pa → post (nI N, nI m, nI s, 0, rq_cnt (dq_seq xl_clr N s (1024 * N)).1 N, xl_clr, ds, ho, pa, tD, tH)) : wpX_init post 6 1184 (0, 0, 0, 0, 0) k0 k1 k2 := by
  have e1 : nI N - 1 = nI (N - 1) := pk_sub (b := 1) (by omega)
  unfold wpX_init
  refine ⟨by decide, by decide, by decide, by decide, by decide, by decide, by decide, by decide, by decide, by decide, by decide, by decide, ?_⟩
  refine xl_cx h0 ?_
  rw [e1]
  refine xl_cx h1 (xl_cx h2 ?_)
  refine ⟨1025, xl_cw ?_ 1024 0 (by omega) 1025 (by decide) _ (fun x => ⟨fun hx => absurd hx (Nat.not_lt_zero _), fun _ => rfl⟩)⟩
  exact xc_rec hN (by omega) hs pz_clr fun ds ho pa tD tH z => hp ds ho pa tD tH z
theorem i_vc (xs : Nat → Int32) (L : Nat) (hL : L ≤ 260) : wpL_law (fun r => r = 1) L xs := by
  unfold wpL_law
  refine pz_cell (j := 0) hL (by decide) fun y0 => pz_mod (M := 7) (by decide) (by decide) y0 fun t0 _ => nm_e ?_
  refine pz_cell (j := 1) hL (by decide) fun y1 => ?_
  refine pz_cell (j := 2) hL (by decide) fun y2 => pz_mod (M := 60) (by decide) (by decide) y2 fun t2 _ => nm_e ?_
  obtain ⟨N, a1, a2, h0⟩ := xl_clamp (2 + nI t0) (a := 2) (b := 32) (by decide) (by decide)
  obtain ⟨s, b1, b2, h1⟩ := xl_clamp y1 (a := 0) (b := N - 1) (by omega) (by omega)
  obtain ⟨m, c1, c2, h2⟩ := xl_clamp (4 + nI t2) (a := 1) (b := 128) (by decide) (by decide)
  refine ⟨6, 1184, by decide, by decide, ?_⟩
  refine pz_init a1 a2 (by omega) h0 h1 h2 fun ds ho pa tD tH hf => ?_
  refine ⟨by decide, by decide, 6, 1184, by decide, by decide, ?_⟩
  refine pz_init a1 a2 (by omega) h0 h1 h2 fun ds' ho' pa' tD' tH' hf' => ?_
  have ok : dq_ok xl_clr N s := dq_ok0 a2 (fun _ => xl_clr1)
  have I : pv_ok xl_clr N s ds ho pa := ⟨a1, a2, by omega, pz_clr, ok, hf⟩
  have I' : pv_ok xl_clr N s ds' ho' pa' := ⟨a1, a2, by omega, pz_clr, ok, hf'⟩
  exact pv_valid I (br_f yn_10 ⟨66, pz_loop hL a1 a2 65 3 (by omega) (by decide) 66 (by decide) s 0 xl_clr ds ho pa tD tH ds' ho' pa' tD' tH' I I'⟩)
end
end
