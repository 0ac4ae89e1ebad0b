/-! walks over plain integers: least weight, then least length; a relaxing process settles them -/
section
/-- there is a walk of k edges from s to v, of weight c -/
def sp_wk (E : Nat → Nat → Prop) (w : Nat → Nat → Int) (s : Nat) : Nat → Nat → Int → Prop
  | 0, v, c => v = s ∧ c = 0
  | k + 1, v, c => ∃ (u : Nat) (c' : Int), sp_wk E w s k u c' ∧ E u v ∧ c = c' + w u v
/-- k and c are the best walk's, by weight and then by length -/
def sp_best (E : Nat → Nat → Prop) (w : Nat → Nat → Int) (s v k : Nat) (c : Int) : Prop :=
  sp_wk E w s k v c ∧ ∀ (k' : Nat) (c' : Int), sp_wk E w s k' v c' → c < c' ∨ (c = c' ∧ k ≤ k')
theorem sp_ws {E : Nat → Nat → Prop} {w : Nat → Nat → Int} {s k u v : Nat} {c : Int} (a : sp_wk E w s k u c) (e : E u v) : sp_wk E w s (k + 1) v (c + w u v) := ⟨u, c, a, e, rfl⟩
theorem sp_lb {E : Nat → Nat → Prop} {w : Nat → Nat → Int} {s : Nat} {Q : Nat → Prop} {f : Nat → Int} (hs : Q s) (hQ : ∀ u v, E u v → Q u → Q v ∧ f v ≤ f u + w u v) : ∀ (k v : Nat) (c : Int), sp_wk E w s k v c → Q v ∧ f v - f s ≤ c := by
  intro k
  induction k with
  | zero =>
    intro v c h
    have h' : v = s ∧ c = 0 := h
    rw [h'.1, h'.2]
    exact ⟨hs, by omega⟩
  | succ k ih =>
    intro v c h
    have h' : ∃ (u : Nat) (c' : Int), sp_wk E w s k u c' ∧ E u v ∧ c = c' + w u v := h
    obtain ⟨u, c', h1, h2, h3⟩ := h'
    obtain ⟨q1, q2⟩ := ih u c' h1
    obtain ⟨q3, q4⟩ := hQ u v h2 q1
    exact ⟨q3, by omega⟩
theorem sp_least (P : Nat → Prop) : ∀ k, P k → ∃ m, P m ∧ ∀ j, j < m → ¬ P j := by
  intro k
  induction k using Nat.strongRecOn with
  | ind k ih =>
    intro hk
    by_cases q : ∃ j, j < k ∧ P j
    · obtain ⟨j, hj, pj⟩ := q
      exact ih j hj pj
    · exact ⟨k, hk, fun j hj pj => q ⟨j, hj, pj⟩⟩
theorem sp_bestE {E : Nat → Nat → Prop} {w : Nat → Nat → Int} {s : Nat} {Q : Nat → Prop} {f : Nat → Int} (hs : Q s) (hQ : ∀ u v, E u v → Q u → Q v ∧ f v ≤ f u + w u v) {k v : Nat} {c : Int} (h : sp_wk E w s k v c) : ∃ (k0 : Nat) (c0 : Int), sp_best E w s v k0 c0 := by
  have z := sp_least (fun m => ∃ (k : Nat) (c : Int), sp_wk E w s k v c ∧ (c - (f v - f s)).toNat = m) (c - (f v - f s)).toNat ⟨k, c, h, rfl⟩
  obtain ⟨m, ⟨k1, c1, h1, e1⟩, hm⟩ := z
  have hm' : ∀ (k' : Nat) (c' : Int), sp_wk E w s k' v c' → ¬ (c' - (f v - f s)).toNat < m := fun k' c' h' q => hm _ q ⟨k', c', h', rfl⟩
  obtain ⟨k0, h0, hk⟩ := sp_least (fun k => sp_wk E w s k v c1) k1 h1
  refine ⟨k0, c1, h0, fun k' c' h' => ?_⟩
  have b1 := (sp_lb hs hQ k1 v c1 h1).2
  have b2 := (sp_lb hs hQ k' v c' h').2
  have q := hm' k' c' h'
  by_cases e : c1 = c'
  · subst e
    have q3 : ¬ k' < k0 := fun z => hk k' z h'
    exact Or.inr ⟨rfl, by omega⟩
  · exact Or.inl (by omega)
theorem sp_prev {E : Nat → Nat → Prop} {w : Nat → Nat → Int} {s v k : Nat} {c : Int} (h : sp_best E w s v (k + 1) c) : ∃ (u : Nat) (c' : Int), sp_best E w s u k c' ∧ E u v ∧ c = c' + w u v := by
  obtain ⟨h1, h2⟩ := h
  have h1' : ∃ (u : Nat) (c' : Int), sp_wk E w s k u c' ∧ E u v ∧ c = c' + w u v := h1
  obtain ⟨u, c', a, e, q⟩ := h1'
  refine ⟨u, c', ⟨a, fun k2 c2 hk => ?_⟩, e, q⟩
  have z := h2 (k2 + 1) (c2 + w u v) (sp_ws hk e)
  omega
theorem sp_uniq {E : Nat → Nat → Prop} {w : Nat → Nat → Int} {s v k k' : Nat} {c c' : Int} (h : sp_best E w s v k c) (h' : sp_best E w s v k' c') : k = k' ∧ c = c' := by
  have a := h.2 k' c' h'.1
  have b := h'.2 k c h.1
  omega
theorem sp_pig : ∀ (N k : Nat) (f : Nat → Nat), (∀ j, j ≤ k → f j < N) → (∀ i j, i ≤ k → j ≤ k → f i = f j → i = j) → k < N := by
  intro N
  induction N with
  | zero => intro k f h _; exact absurd (h 0 (Nat.zero_le _)) (Nat.not_lt_zero _)
  | succ N ih =>
    intro k f h hi
    cases k with
    | zero => omega
    | succ k =>
      have q : k < N := by
        refine ih k (fun j => if f j = N then f (k + 1) else f j) ?_ ?_
        · intro j hj
          have a := h j (by omega)
          have b := h (k + 1) (Nat.le_refl _)
          show (if f j = N then f (k + 1) else f j) < N
          by_cases e : f j = N
          · rw [if_pos e]
            have z : f (k + 1) ≠ N := fun z => by
              have := hi j (k + 1) (by omega) (Nat.le_refl _) (e.trans z.symm)
              omega
            omega
          · rw [if_neg e]; omega
        · intro i j hi' hj' e'
          have e : (if f i = N then f (k + 1) else f i) = (if f j = N then f (k + 1) else f j) := e'
          by_cases a : f i = N
          · by_cases b : f j = N
            · exact hi i j (by omega) (by omega) (a.trans b.symm)
            · rw [if_pos a, if_neg b] at e
              have := hi (k + 1) j (Nat.le_refl _) (by omega) e
              omega
          · by_cases b : f j = N
            · rw [if_neg a, if_pos b] at e
              have := hi i (k + 1) (by omega) (Nat.le_refl _) e
              omega
            · rw [if_neg a, if_neg b] at e
              exact hi i j (by omega) (by omega) e
      omega
theorem sp_chain {E : Nat → Nat → Prop} {w : Nat → Nat → Int} {s N : Nat} (hs : s < N) (hE : ∀ u v, E u v → u < N ∧ v < N) : ∀ (k v : Nat) (c : Int), sp_best E w s v k c → ∃ f : Nat → Nat, ∀ j, j ≤ k → f j < N ∧ ∃ c', sp_best E w s (f j) j c' := by
  intro k
  induction k with
  | zero =>
    intro v c h
    have e : v = s ∧ c = 0 := h.1
    refine ⟨fun _ => v, fun j hj => ?_⟩
    have j0 : j = 0 := by omega
    subst j0
    exact ⟨by show v < N; omega, c, h⟩
  | succ k ih =>
    intro v c h
    obtain ⟨u, c', hb, he, _⟩ := sp_prev h
    obtain ⟨f, hf⟩ := ih u c' hb
    refine ⟨fun j => if j = k + 1 then v else f j, fun j hj => ?_⟩
    show (if j = k + 1 then v else f j) < N ∧ ∃ c', sp_best E w s (if j = k + 1 then v else f j) j c'
    by_cases e : j = k + 1
    · rw [if_pos e, e]
      exact ⟨(hE u v he).2, c, h⟩
    · rw [if_neg e]
      exact hf j (by omega)
theorem sp_len {E : Nat → Nat → Prop} {w : Nat → Nat → Int} {s N : Nat} (hs : s < N) (hE : ∀ u v, E u v → u < N ∧ v < N) {k v : Nat} {c : Int} (h : sp_best E w s v k c) : k < N := by
  obtain ⟨f, hf⟩ := sp_chain hs hE k v c h
  refine sp_pig N k f (fun j hj => (hf j hj).1) (fun i j hi hj e => ?_)
  obtain ⟨_, c1, b1⟩ := hf i hi
  obtain ⟨_, c2, b2⟩ := hf j hj
  rw [e] at b1
  exact (sp_uniq b1 b2).1
/-- at time T the edge (u, v) betters v -/
def sp_fire (E : Nat → Nat → Prop) (w : Nat → Nat → Int) (R : Nat → Nat → Prop) (D : Nat → Nat → Int) (H : Nat → Nat → Nat) (T u v : Nat) : Prop :=
  E u v ∧ R T u ∧ (¬ R T v ∨ D T u + w u v < D T v ∨ (D T u + w u v = D T v ∧ H T u + 1 < H T v))
/-- from time T to T + 1 the edge (u, v) is relaxed -/
def sp_step (E : Nat → Nat → Prop) (w : Nat → Nat → Int) (R : Nat → Nat → Prop) (D : Nat → Nat → Int) (H : Nat → Nat → Nat) (T u v : Nat) : Prop :=
  (sp_fire E w R D H T u v ∧ R (T + 1) v ∧ D (T + 1) v = D T u + w u v ∧ H (T + 1) v = H T u + 1 ∧ ∀ x, x ≠ v → (R (T + 1) x ↔ R T x) ∧ D (T + 1) x = D T x ∧ H (T + 1) x = H T x)
  ∨ (¬ sp_fire E w R D H T u v ∧ ∀ x, (R (T + 1) x ↔ R T x) ∧ D (T + 1) x = D T x ∧ H (T + 1) x = H T x)
/-- the process: all slots of a square of 32, over and over, up to time M -/
def sp_all (E : Nat → Nat → Prop) (w : Nat → Nat → Int) (R : Nat → Nat → Prop) (D : Nat → Nat → Int) (H : Nat → Nat → Nat) (M : Nat) : Prop :=
  ∀ T, T < M → sp_step E w R D H T (T % 1024 / 32) (T % 1024 % 32)
theorem sp_sound {E : Nat → Nat → Prop} {w : Nat → Nat → Int} {R : Nat → Nat → Prop} {D : Nat → Nat → Int} {H : Nat → Nat → Nat} {s M : Nat} (h0 : ∀ x, R 0 x → x = s ∧ D 0 x = 0 ∧ H 0 x = 0) (hs : sp_all E w R D H M) : ∀ T, T ≤ M → ∀ x, R T x → sp_wk E w s (H T x) x (D T x) := by
  intro T
  induction T with
  | zero =>
    intro _ x hx
    obtain ⟨a, b, c⟩ := h0 x hx
    rw [b, c]
    exact ⟨a, rfl⟩
  | succ T ih =>
    intro hT x hx
    have ih' := ih (by omega)
    rcases hs T (by omega) with ⟨f, _, d, h, o⟩ | ⟨_, o⟩
    · by_cases e : x = T % 1024 % 32
      · subst e
        rw [d, h]
        exact sp_ws (ih' _ f.2.1) f.1
      · obtain ⟨a, b, c⟩ := o x e
        rw [b, c]
        exact ih' x (a.mp hx)
    · obtain ⟨a, b, c⟩ := o x
      rw [b, c]
      exact ih' x (a.mp hx)
theorem sp_mono1 {E : Nat → Nat → Prop} {w : Nat → Nat → Int} {R : Nat → Nat → Prop} {D : Nat → Nat → Int} {H : Nat → Nat → Nat} {T u v : Nat} (h : sp_step E w R D H T u v) {x : Nat} (hx : R T x) : R (T + 1) x ∧ (D (T + 1) x < D T x ∨ (D (T + 1) x = D T x ∧ H (T + 1) x ≤ H T x)) := by
  rcases h with ⟨f, r, d, hh, o⟩ | ⟨_, o⟩
  · by_cases e : x = v
    · subst e
      refine ⟨r, ?_⟩
      rcases f.2.2 with q | q | q
      · exact absurd hx q
      · exact Or.inl (by omega)
      · exact Or.inr (by omega)
    · obtain ⟨a, b, c⟩ := o x e
      exact ⟨a.mpr hx, Or.inr (by omega)⟩
  · obtain ⟨a, b, c⟩ := o x
    exact ⟨a.mpr hx, Or.inr (by omega)⟩
theorem sp_mono {E : Nat → Nat → Prop} {w : Nat → Nat → Int} {R : Nat → Nat → Prop} {D : Nat → Nat → Int} {H : Nat → Nat → Nat} {M : Nat} (hs : sp_all E w R D H M) {x T : Nat} (hx : R T x) : ∀ e, T + e ≤ M → R (T + e) x ∧ (D (T + e) x < D T x ∨ (D (T + e) x = D T x ∧ H (T + e) x ≤ H T x)) := by
  intro e
  induction e with
  | zero => intro _; exact ⟨hx, Or.inr ⟨rfl, Nat.le_refl _⟩⟩
  | succ e ih =>
    intro hM
    obtain ⟨a, b⟩ := ih (by omega)
    obtain ⟨c, d⟩ := sp_mono1 (hs (T + e) (by omega)) a
    show R (T + e + 1) x ∧ (D (T + e + 1) x < D T x ∨ (D (T + e + 1) x = D T x ∧ H (T + e + 1) x ≤ H T x))
    exact ⟨c, by omega⟩
theorem sp_fix {E : Nat → Nat → Prop} {w : Nat → Nat → Int} {R : Nat → Nat → Prop} {D : Nat → Nat → Int} {H : Nat → Nat → Nat} {s M : Nat} (h0 : ∀ x, R 0 x → x = s ∧ D 0 x = 0 ∧ H 0 x = 0) (hs : sp_all E w R D H M) {v k T : Nat} {c : Int} (hb : sp_best E w s v k c) (hT : T ≤ M) (hr : R T v) (hle : D T v < c ∨ (D T v = c ∧ H T v ≤ k)) : D T v = c ∧ H T v = k := by
  have z := hb.2 _ _ (sp_sound h0 hs T hT v hr)
  omega
theorem sp_settle {E : Nat → Nat → Prop} {w : Nat → Nat → Int} {R : Nat → Nat → Prop} {D : Nat → Nat → Int} {H : Nat → Nat → Nat} {s M N : Nat} (hN : N ≤ 32) (hE : ∀ u v, E u v → u < N ∧ v < N) (hr0 : R 0 s) (h0 : ∀ x, R 0 x → x = s ∧ D 0 x = 0 ∧ H 0 x = 0) (hs : sp_all E w R D H M) : ∀ (j k v : Nat) (c : Int), sp_best E w s v k c → k ≤ j → ∀ T, 1024 * j ≤ T → T ≤ M → R T v ∧ D T v = c ∧ H T v = k := by
  intro j
  induction j with
  | zero =>
    intro k v c hb hk T _ hT
    have hk0 : k = 0 := by omega
    subst hk0
    have e : v = s ∧ c = 0 := hb.1
    have q := sp_mono hs hr0 T (by omega)
    rw [Nat.zero_add] at q
    obtain ⟨_, z1, z2⟩ := h0 s hr0
    obtain ⟨q1, q2⟩ := q
    rw [← e.1] at q1 q2 z1 z2
    exact ⟨q1, sp_fix h0 hs hb hT q1 (by omega)⟩
  | succ j ih =>
    intro k v c hb hk T hT hM
    by_cases hkj : k ≤ j
    · exact ih k v c hb hkj T (by omega) hM
    · have hk1 : k = j + 1 := by omega
      subst hk1
      obtain ⟨u, c', hb', he, hc⟩ := sp_prev hb
      obtain ⟨hu, hv⟩ := hE u v he
      obtain ⟨T0, hT0⟩ : ∃ T0, T0 = 1024 * j + (32 * u + v) := ⟨_, rfl⟩
      obtain ⟨r1, d1, h1⟩ := ih j u c' hb' (Nat.le_refl _) T0 (by omega) (by omega)
      have st := hs T0 (by omega)
      have eu : T0 % 1024 / 32 = u := by omega
      have ev : T0 % 1024 % 32 = v := by omega
      rw [eu, ev] at st
      have q : R (T0 + 1) v ∧ (D (T0 + 1) v < c ∨ (D (T0 + 1) v = c ∧ H (T0 + 1) v ≤ j + 1)) := by
        rcases st with ⟨_, r, d, h, _⟩ | ⟨nf, o⟩
        · exact ⟨r, Or.inr (by omega)⟩
        · obtain ⟨a, b, e⟩ := o v
          have rv : R T0 v := Classical.byContradiction fun z => nf ⟨he, r1, Or.inl z⟩
          have n1 : ¬ (D T0 u + w u v < D T0 v) := fun z => nf ⟨he, r1, Or.inr (Or.inl z)⟩
          have n2 : ¬ (D T0 u + w u v = D T0 v ∧ H T0 u + 1 < H T0 v) := fun z => nf ⟨he, r1, Or.inr (Or.inr z)⟩
          exact ⟨a.mpr rv, by omega⟩
      have m := sp_mono hs q.1 (T - (T0 + 1)) (by omega)
      rw [show T0 + 1 + (T - (T0 + 1)) = T by omega] at m
      obtain ⟨m1, m2⟩ := m
      obtain ⟨_, q2⟩ := q
      exact ⟨m1, sp_fix h0 hs hb hM m1 (by omega)⟩
/-- with a potential, nothing is bettered from the round N - 1 on -/
theorem sp_quiet {E : Nat → Nat → Prop} {w : Nat → Nat → Int} {R : Nat → Nat → Prop} {D : Nat → Nat → Int} {H : Nat → Nat → Nat} {s M N : Nat} {Q : Nat → Prop} {f : Nat → Int} (hN : N ≤ 32) (hsN : s < N) (hE : ∀ u v, E u v → u < N ∧ v < N) (hr0 : R 0 s) (h0 : ∀ x, R 0 x → x = s ∧ D 0 x = 0 ∧ H 0 x = 0) (hs : sp_all E w R D H M) (hQs : Q s) (hQ : ∀ u v, E u v → Q u → Q v ∧ f v ≤ f u + w u v) {T u v : Nat} (h1 : 1024 * (N - 1) ≤ T) (h2 : T < M) : ¬ sp_fire E w R D H T u v := by
  intro hf
  obtain ⟨he, hr, hi⟩ := hf
  have wu := sp_sound h0 hs T (by omega) u hr
  have wv := sp_ws wu he
  obtain ⟨ku, cu, bu⟩ := sp_bestE hQs hQ wu
  obtain ⟨kv, cv, bv⟩ := sp_bestE hQs hQ wv
  have lu := sp_len hsN hE bu
  have lv := sp_len hsN hE bv
  obtain ⟨_, a, b⟩ := sp_settle hN hE hr0 h0 hs (N - 1) ku u cu bu (by omega) T h1 (by omega)
  obtain ⟨r, c, d⟩ := sp_settle hN hE hr0 h0 hs (N - 1) kv v cv bv (by omega) T h1 (by omega)
  have z := bv.2 _ _ wv
  rcases hi with i | i | i
  · exact i r
  · omega
  · omega
end
