/-! the process over arrays as the reference keeps them (reach, dist, hops), over the graph as the class keeps it (2147483647: no edge) -/
section
theorem dq_add {a b : Int32} (h1 : -2147483648 ≤ a.toInt + b.toInt) (h2 : a.toInt + b.toInt < 2147483648) : (a + b).toInt = a.toInt + b.toInt := by
  rw [Int32.toInt_add]
  exact Int.bmod_eq_of_le (by omega) (by omega)
theorem dq_t0 : (0 : Int32).toInt = 0 := by decide
theorem dq_t1 : (1 : Int32).toInt = 1 := by decide
theorem dq_tM : (2147483647 : Int32).toInt = 2147483647 := by decide
/-- every present edge has an allowed weight -/
def dq_gr (W : Nat → Int32) : Prop := ∀ k, k < 1024 → W k = 2147483647 ∨ (-1000 ≤ (W k).toInt ∧ (W k).toInt ≤ 1000)
/-- reach, dist, hops -/
abbrev dq_S : Type := (Nat → Int32) × (Nat → Int32) × (Nat → Int32)
/-- the slot k betters its head -/
abbrev dq_imp (W : Nat → Int32) (N : Nat) (q : dq_S) (k : Nat) : Prop :=
  k / 32 < N ∧ k % 32 < N ∧ ¬ W k = 2147483647 ∧ ¬ q.1 (k / 32) = 0 ∧ (q.1 (k % 32) = 0 ∨ q.2.1 (k / 32) + W k < q.2.1 (k % 32) ∨ (q.2.1 (k / 32) + W k = q.2.1 (k % 32) ∧ q.2.2 (k / 32) + 1 < q.2.2 (k % 32)))
def dq_up (W : Nat → Int32) (q : dq_S) (k : Nat) : dq_S := (upd q.1 (k % 32) 1, upd q.2.1 (k % 32) (q.2.1 (k / 32) + W k), upd q.2.2 (k % 32) (q.2.2 (k / 32) + 1))
def dq_st (W : Nat → Int32) (N : Nat) (q : dq_S) (k : Nat) : dq_S := if dq_imp W N q k then dq_up W q k else q
def dq_0 (s : Nat) : dq_S := (upd (fun _ => 0) s 1, fun _ => 0, fun _ => 0)
/-- after T slots, of the rounds one behind another -/
def dq_seq (W : Nat → Int32) (N s : Nat) : Nat → dq_S
  | 0 => dq_0 s
  | T + 1 => dq_st W N (dq_seq W N s T) (T % 1024)
/-- 'changed' in round j, after k slots -/
def dq_ch (W : Nat → Int32) (N s j : Nat) : Nat → Int32
  | 0 => 0
  | k + 1 => if dq_imp W N (dq_seq W N s (1024 * j + k)) k then 1 else dq_ch W N s j k
theorem dq_st_t {W : Nat → Int32} {N k : Nat} {q : dq_S} (h : dq_imp W N q k) : dq_st W N q k = dq_up W q k := if_pos h
theorem dq_st_f {W : Nat → Int32} {N k : Nat} {q : dq_S} (h : ¬ dq_imp W N q k) : dq_st W N q k = q := if_neg h
theorem dq_u1 {W : Nat → Int32} {q : dq_S} {k : Nat} : (dq_up W q k).1 (k % 32) = 1 := pk_us
theorem dq_u2 {W : Nat → Int32} {q : dq_S} {k : Nat} : (dq_up W q k).2.1 (k % 32) = q.2.1 (k / 32) + W k := pk_us
theorem dq_u3 {W : Nat → Int32} {q : dq_S} {k : Nat} : (dq_up W q k).2.2 (k % 32) = q.2.2 (k / 32) + 1 := pk_us
theorem dq_n1 {W : Nat → Int32} {q : dq_S} {k i : Nat} (h : i ≠ k % 32) : (dq_up W q k).1 i = q.1 i := pk_un h
theorem dq_n2 {W : Nat → Int32} {q : dq_S} {k i : Nat} (h : i ≠ k % 32) : (dq_up W q k).2.1 i = q.2.1 i := pk_un h
theorem dq_n3 {W : Nat → Int32} {q : dq_S} {k i : Nat} (h : i ≠ k % 32) : (dq_up W q k).2.2 i = q.2.2 i := pk_un h
theorem dq_seqS {W : Nat → Int32} {N s j k : Nat} (hk : k < 1024) : dq_seq W N s (1024 * j + (k + 1)) = dq_st W N (dq_seq W N s (1024 * j + k)) k := by
  have e : dq_seq W N s (1024 * j + (k + 1)) = dq_st W N (dq_seq W N s (1024 * j + k)) ((1024 * j + k) % 1024) := rfl
  rw [e, show (1024 * j + k) % 1024 = k by omega]
/-- what is reached has a small distance and few hops -/
def dq_bd (T : Nat) (q : dq_S) : Prop := ∀ i, q.1 i = 0 ∨ (q.1 i = 1 ∧ -(1000 * (T : Int)) ≤ (q.2.1 i).toInt ∧ (q.2.1 i).toInt ≤ 1000 * (T : Int) ∧ 0 ≤ (q.2.2 i).toInt ∧ (q.2.2 i).toInt ≤ (T : Int))
theorem dq_bd0 (s : Nat) : dq_bd 0 (dq_0 s) := by
  intro i
  by_cases e : i = s
  · refine Or.inr ⟨if_pos e, ?_⟩
    show -(1000 * ((0 : Nat) : Int)) ≤ (0 : Int32).toInt ∧ (0 : Int32).toInt ≤ 1000 * ((0 : Nat) : Int) ∧ 0 ≤ (0 : Int32).toInt ∧ (0 : Int32).toInt ≤ ((0 : Nat) : Int)
    rw [dq_t0]
    omega
  · exact Or.inl (if_neg e)
theorem dq_bdm {T : Nat} {q : dq_S} (h : dq_bd T q) : dq_bd (T + 1) q := by
  intro i
  rcases h i with z | ⟨z0, z1, z2, z3, z4⟩
  · exact Or.inl z
  · exact Or.inr ⟨z0, by omega, by omega, by omega, by omega⟩
/-- the sums do not wrap -/
theorem dq_sums {W : Nat → Int32} {T k u : Nat} {q : dq_S} (hW : dq_gr W) (hk : k < 1024) (hT : T ≤ 32768) (h : dq_bd T q) (h3 : ¬ W k = 2147483647) (h4 : ¬ q.1 u = 0) : (q.2.1 u + W k).toInt = (q.2.1 u).toInt + (W k).toInt ∧ (q.2.2 u + 1).toInt = (q.2.2 u).toInt + 1 ∧ -(1000 * (T : Int)) ≤ (q.2.1 u).toInt ∧ (q.2.1 u).toInt ≤ 1000 * (T : Int) ∧ 0 ≤ (q.2.2 u).toInt ∧ (q.2.2 u).toInt ≤ (T : Int) ∧ -1000 ≤ (W k).toInt ∧ (W k).toInt ≤ 1000 := by
  obtain ⟨_, u1, u2, u3, u4⟩ := (h u).resolve_left h4
  obtain ⟨w1, w2⟩ := (hW k hk).resolve_left h3
  have a1 := dq_add (a := q.2.1 u) (b := W k) (by omega) (by omega)
  have a2 := dq_add (a := q.2.2 u) (b := 1) (by rw [dq_t1]; omega) (by rw [dq_t1]; omega)
  rw [dq_t1] at a2
  exact ⟨a1, a2, u1, u2, u3, u4, w1, w2⟩
theorem dq_bdS {W : Nat → Int32} {N T k : Nat} {q : dq_S} (hW : dq_gr W) (hk : k < 1024) (hT : T ≤ 32768) (h : dq_bd T q) : dq_bd (T + 1) (dq_st W N q k) := by
  by_cases c : dq_imp W N q k
  · rw [dq_st_t c]
    obtain ⟨a1, a2, u1, u2, u3, u4, w1, w2⟩ := dq_sums hW hk hT h c.2.2.1 c.2.2.2.1
    intro i
    by_cases e : i = k % 32
    · rw [e, dq_u1, dq_u2, dq_u3, a1, a2]
      exact Or.inr ⟨rfl, by omega, by omega, by omega, by omega⟩
    · rw [dq_n1 e, dq_n2 e, dq_n3 e]
      exact dq_bdm h i
  · rw [dq_st_f c]
    exact dq_bdm h
theorem dq_bdT {W : Nat → Int32} {N s : Nat} (hW : dq_gr W) : ∀ T, T ≤ 32768 → dq_bd T (dq_seq W N s T) := by
  intro T
  induction T with
  | zero => intro _; exact dq_bd0 s
  | succ T ih => intro h; exact dq_bdS hW (Nat.mod_lt _ (by decide)) (by omega) (ih (by omega))
/-- beyond the 32 places nothing is stored -/
theorem dq_hi {W : Nat → Int32} {N s : Nat} (hs : s < 32) : ∀ T i, 32 ≤ i → (dq_seq W N s T).1 i = 0 ∧ (dq_seq W N s T).2.1 i = 0 ∧ (dq_seq W N s T).2.2 i = 0 := by
  intro T
  induction T with
  | zero => intro i hi; exact ⟨if_neg (by omega), rfl, rfl⟩
  | succ T ih =>
    intro i hi
    have e : dq_seq W N s (T + 1) = dq_st W N (dq_seq W N s T) (T % 1024) := rfl
    rw [e]
    by_cases c : dq_imp W N (dq_seq W N s T) (T % 1024)
    · rw [dq_st_t c, dq_n1 (by omega), dq_n2 (by omega), dq_n3 (by omega)]
      exact ih i hi
    · rw [dq_st_f c]
      exact ih i hi
/-- the process, read in integers -/
def dq_E (W : Nat → Int32) (N u v : Nat) : Prop := u < N ∧ v < N ∧ ¬ W (32 * u + v) = 2147483647
def dq_w (W : Nat → Int32) (u v : Nat) : Int := (W (32 * u + v)).toInt
def dq_R (W : Nat → Int32) (N s T v : Nat) : Prop := ¬ (dq_seq W N s T).1 v = 0
def dq_D (W : Nat → Int32) (N s T v : Nat) : Int := ((dq_seq W N s T).2.1 v).toInt
def dq_H (W : Nat → Int32) (N s T v : Nat) : Nat := ((dq_seq W N s T).2.2 v).toInt.toNat
theorem dq_fire {W : Nat → Int32} {N s T : Nat} (hW : dq_gr W) (hT : T < 32768) : dq_imp W N (dq_seq W N s T) (T % 1024) ↔ sp_fire (dq_E W N) (dq_w W) (dq_R W N s) (dq_D W N s) (dq_H W N s) T (T % 1024 / 32) (T % 1024 % 32) := by
  have hb := dq_bdT (N := N) (s := s) hW T (by omega)
  have hk : T % 1024 < 1024 := Nat.mod_lt _ (by decide)
  unfold sp_fire dq_E dq_w dq_R dq_D dq_H
  rw [Nat.div_add_mod]
  generalize dq_seq W N s T = q at hb ⊢
  generalize T % 1024 = k at hk ⊢
  constructor
  · intro c
    obtain ⟨h1, h2, h3, h4, h5⟩ := c
    refine ⟨⟨h1, h2, h3⟩, h4, ?_⟩
    obtain ⟨a1, a2, u1, u2, u3, u4, w1, w2⟩ := dq_sums hW hk (by omega) hb h3 h4
    by_cases v0 : q.1 (k % 32) = 0
    · exact Or.inl (fun n => n v0)
    · obtain ⟨_, v1, v2, v3, v4⟩ := (hb (k % 32)).resolve_left v0
      rcases h5 with z | z | ⟨z1, z2⟩
      · exact absurd z v0
      · rw [Int32.lt_iff_toInt_lt, a1] at z
        exact Or.inr (Or.inl z)
      · rw [Int32.lt_iff_toInt_lt, a2] at z2
        have z3 := congrArg Int32.toInt z1
        rw [a1] at z3
        exact Or.inr (Or.inr ⟨z3, by omega⟩)
  · intro c
    obtain ⟨⟨h1, h2, h3⟩, h4, h5⟩ := c
    refine ⟨h1, h2, h3, h4, ?_⟩
    obtain ⟨a1, a2, u1, u2, u3, u4, w1, w2⟩ := dq_sums hW hk (by omega) hb h3 h4
    by_cases v0 : q.1 (k % 32) = 0
    · exact Or.inl v0
    · obtain ⟨_, v1, v2, v3, v4⟩ := (hb (k % 32)).resolve_left v0
      rcases h5 with z | z | ⟨z1, z2⟩
      · exact absurd v0 z
      · refine Or.inr (Or.inl ?_)
        rw [Int32.lt_iff_toInt_lt, a1]
        exact z
      · refine Or.inr (Or.inr ⟨Int32.toInt_inj.mp (by rw [a1]; exact z1), ?_⟩)
        rw [Int32.lt_iff_toInt_lt, a2]
        omega
theorem dq_step {W : Nat → Int32} {N s : Nat} (hW : dq_gr W) : sp_all (dq_E W N) (dq_w W) (dq_R W N s) (dq_D W N s) (dq_H W N s) 32768 := by
  intro T hT
  have hf := dq_fire (N := N) (s := s) hW hT
  have hb := dq_bdT (N := N) (s := s) hW T (by omega)
  have hk : T % 1024 < 1024 := Nat.mod_lt _ (by decide)
  have e : dq_seq W N s (T + 1) = dq_st W N (dq_seq W N s T) (T % 1024) := rfl
  by_cases c : dq_imp W N (dq_seq W N s T) (T % 1024)
  · rw [dq_st_t c] at e
    obtain ⟨a1, a2, u1, u2, u3, u4, w1, w2⟩ := dq_sums hW hk (by omega) hb c.2.2.1 c.2.2.2.1
    refine Or.inl ⟨hf.mp c, ?_, ?_, ?_, fun x hx => ⟨?_, ?_, ?_⟩⟩
    · unfold dq_R
      rw [e, dq_u1]
      decide
    · unfold dq_D dq_w
      rw [e, dq_u2, a1, Nat.div_add_mod]
    · unfold dq_H
      rw [e, dq_u3, a2]
      omega
    · unfold dq_R
      rw [e, dq_n1 hx]
    · unfold dq_D
      rw [e, dq_n2 hx]
    · unfold dq_H
      rw [e, dq_n3 hx]
  · rw [dq_st_f c] at e
    refine Or.inr ⟨fun z => c (hf.mpr z), fun x => ⟨?_, ?_, ?_⟩⟩
    · unfold dq_R
      rw [e]
    · unfold dq_D
      rw [e]
    · unfold dq_H
      rw [e]
theorem dq_R0 {W : Nat → Int32} {N s : Nat} : dq_R W N s 0 s := by
  unfold dq_R
  show ¬ upd (fun _ => 0) s 1 s = 0
  rw [pk_us]
  decide
theorem dq_D0 {W : Nat → Int32} {N s : Nat} : ∀ x, dq_R W N s 0 x → x = s ∧ dq_D W N s 0 x = 0 ∧ dq_H W N s 0 x = 0 := by
  intro x hx
  refine ⟨Classical.byContradiction fun z => hx (if_neg z), dq_t0, ?_⟩
  show (0 : Int32).toInt.toNat = 0
  rw [dq_t0]
  rfl
theorem dq_ch01 {W : Nat → Int32} {N s j : Nat} : ∀ k, dq_ch W N s j k = 0 ∨ dq_ch W N s j k = 1 := by
  intro k
  induction k with
  | zero => exact Or.inl rfl
  | succ k ih =>
    show (if dq_imp W N (dq_seq W N s (1024 * j + k)) k then (1 : Int32) else dq_ch W N s j k) = 0 ∨ (if dq_imp W N (dq_seq W N s (1024 * j + k)) k then (1 : Int32) else dq_ch W N s j k) = 1
    by_cases c : dq_imp W N (dq_seq W N s (1024 * j + k)) k
    · rw [if_pos c]; exact Or.inr rfl
    · rw [if_neg c]; exact ih
theorem dq_chT {W : Nat → Int32} {N s j k : Nat} (c : dq_imp W N (dq_seq W N s (1024 * j + k)) k) : dq_ch W N s j (k + 1) = 1 := if_pos c
theorem dq_chF {W : Nat → Int32} {N s j k : Nat} (c : ¬ dq_imp W N (dq_seq W N s (1024 * j + k)) k) : dq_ch W N s j (k + 1) = dq_ch W N s j k := if_neg c
theorem dq_ch0 {W : Nat → Int32} {N s j : Nat} : ∀ k, dq_ch W N s j k = 0 ↔ ∀ i, i < k → ¬ dq_imp W N (dq_seq W N s (1024 * j + i)) i := by
  intro k
  induction k with
  | zero => exact ⟨fun _ i hi => absurd hi (Nat.not_lt_zero _), fun _ => rfl⟩
  | succ k ih =>
    by_cases c : dq_imp W N (dq_seq W N s (1024 * j + k)) k
    · rw [dq_chT c]
      exact ⟨fun h => absurd h (by decide), fun h => absurd c (h k (Nat.lt_succ_self k))⟩
    · rw [dq_chF c, ih]
      constructor
      · intro h i hi
        by_cases e : i = k
        · rw [e]; exact c
        · exact h i (by omega)
      · intro h i hi
        exact h i (by omega)
/-- a quiet round stays quiet -/
theorem dq_const {W : Nat → Int32} {N s j : Nat} (h : dq_ch W N s j 1024 = 0) : (∀ i, i < 1024 → ¬ dq_imp W N (dq_seq W N s (1024 * j)) i) ∧ ∀ e, dq_seq W N s (1024 * j + e) = dq_seq W N s (1024 * j) := by
  have h' := (dq_ch0 1024).mp h
  have a : ∀ k, k ≤ 1024 → dq_seq W N s (1024 * j + k) = dq_seq W N s (1024 * j) := by
    intro k
    induction k with
    | zero => intro _; rfl
    | succ k ih =>
      intro hk
      rw [dq_seqS (by omega), dq_st_f (h' k (by omega))]
      exact ih (by omega)
  have b : ∀ i, i < 1024 → ¬ dq_imp W N (dq_seq W N s (1024 * j)) i := by
    intro i hi
    have z := h' i hi
    rw [a i (by omega)] at z
    exact z
  refine ⟨b, fun e => ?_⟩
  induction e with
  | zero => rfl
  | succ e ih =>
    have z : dq_seq W N s (1024 * j + (e + 1)) = dq_st W N (dq_seq W N s (1024 * j + e)) ((1024 * j + e) % 1024) := rfl
    rw [z, ih, dq_st_f (b _ (Nat.mod_lt _ (by decide)))]
theorem dq_later {W : Nat → Int32} {N s j j' : Nat} (h : dq_ch W N s j 1024 = 0) (hj : j ≤ j') : dq_seq W N s (1024 * j') = dq_seq W N s (1024 * j) ∧ dq_ch W N s j' 1024 = 0 := by
  obtain ⟨b, a⟩ := dq_const h
  have e : ∀ k, dq_seq W N s (1024 * j' + k) = dq_seq W N s (1024 * j) := by
    intro k
    have z := a (1024 * (j' - j) + k)
    rw [show 1024 * j + (1024 * (j' - j) + k) = 1024 * j' + k by omega] at z
    exact z
  refine ⟨e 0, (dq_ch0 1024).mpr fun i hi => ?_⟩
  rw [e i]
  exact b i hi
/-- a potential: no negative cycle can be reached -/
def dq_ok (W : Nat → Int32) (N s : Nat) : Prop := ∃ (Q : Nat → Prop) (f : Nat → Int), Q s ∧ ∀ u v, dq_E W N u v → Q u → Q v ∧ f v ≤ f u + dq_w W u v
theorem dq_okq {W : Nat → Int32} {N s : Nat} (hW : dq_gr W) (hN : N ≤ 32) (hs : s < N) (h : dq_ok W N s) : dq_ch W N s (N - 1) 1024 = 0 := by
  obtain ⟨Q, f, q1, q2⟩ := h
  refine (dq_ch0 1024).mpr fun i hi => ?_
  have hT : 1024 * (N - 1) + i < 32768 := by omega
  have z := dq_fire (N := N) (s := s) hW hT
  rw [show (1024 * (N - 1) + i) % 1024 = i by omega] at z
  intro c
  exact sp_quiet hN hs (fun u v e => ⟨e.1, e.2.1⟩) dq_R0 dq_D0 (dq_step hW) q1 q2 (by omega) hT (z.mp c)
theorem dq_qok {W : Nat → Int32} {N s : Nat} (hW : dq_gr W) (hN : N ≤ 32) (hs : s < N) (h : dq_ch W N s (N - 1) 1024 = 0) : dq_ok W N s := by
  obtain ⟨_, a⟩ := dq_const h
  have h' := (dq_ch0 1024).mp h
  have hm := sp_mono (dq_step (N := N) (s := s) hW) (dq_R0 (W := W) (N := N) (s := s)) (1024 * (N - 1)) (by omega)
  rw [Nat.zero_add] at hm
  refine ⟨dq_R W N s (1024 * (N - 1)), dq_D W N s (1024 * (N - 1)), hm.1, fun u v he hu => ?_⟩
  obtain ⟨e1, e2, e3⟩ := he
  have hT : 1024 * (N - 1) + (32 * u + v) < 32768 := by omega
  have z := dq_fire (N := N) (s := s) hW hT
  rw [show (1024 * (N - 1) + (32 * u + v)) % 1024 = 32 * u + v by omega, show (32 * u + v) / 32 = u by omega, show (32 * u + v) % 32 = v by omega] at z
  have nf := fun y => h' (32 * u + v) (by omega) (z.mpr y)
  have er : ∀ x, dq_R W N s (1024 * (N - 1) + (32 * u + v)) x ↔ dq_R W N s (1024 * (N - 1)) x := fun x => by
    unfold dq_R
    rw [a]
  have ed : ∀ x, dq_D W N s (1024 * (N - 1) + (32 * u + v)) x = dq_D W N s (1024 * (N - 1)) x := fun x => by
    unfold dq_D
    rw [a]
  have hu' := (er u).mpr hu
  constructor
  · exact (er v).mp (Classical.byContradiction fun y => nf ⟨⟨e1, e2, e3⟩, hu', Or.inl y⟩)
  · rw [← ed u, ← ed v]
    exact Int.not_lt.mp fun y => nf ⟨⟨e1, e2, e3⟩, hu', Or.inr (Or.inl y)⟩
theorem dq_okS {W W' : Nat → Int32} {N s : Nat} (hN : N ≤ 32) (hW : ∀ k, k < 1024 → ¬ W' k = 2147483647 → W' k = W k) (h : dq_ok W N s) : dq_ok W' N s := by
  obtain ⟨Q, f, q1, q2⟩ := h
  refine ⟨Q, f, q1, fun u v e hu => ?_⟩
  obtain ⟨e1, e2, e3⟩ := e
  have z := hW (32 * u + v) (by omega) e3
  have y := q2 u v ⟨e1, e2, by rw [← z]; exact e3⟩ hu
  unfold dq_w at y ⊢
  rw [z]
  exact y
theorem dq_ok0 {W : Nat → Int32} {N s : Nat} (hN : N ≤ 32) (hW : ∀ k, k < 1024 → W k = 2147483647) : dq_ok W N s :=
  ⟨fun _ => True, fun _ => 0, trivial, fun u v e _ => absurd (hW (32 * u + v) (by have := e.1; have := e.2.1; omega)) e.2.2⟩
end
