section
variable {N s : Nat} {fm fs fe fr : Int32} {W ds ho pa tD tH : Nat → Int32}
/-- the class's distances and hops a, b stand for the state q, on the places below N -/
def xe_enc (N : Nat) (q : dq_S) (a b : Nat → Int32) : Prop := ∀ i, i < N → (q.1 i = 0 ∧ a i = 2147483647 ∧ b i = -1) ∨ (q.1 i = 1 ∧ a i = q.2.1 i ∧ b i = q.2.2 i)
theorem xe_0 {a b : Nat → Int32} (h : ∀ i, i < N → a i = 2147483647 ∧ b i = -1) : xe_enc N (dq_0 s) (upd a s 0) (upd b s 0) := by
  intro i hi
  by_cases e : i = s
  · rw [e, pk_us, pk_us]
    exact Or.inr ⟨if_pos rfl, rfl, rfl⟩
  · rw [pk_un e, pk_un e]
    exact Or.inl ⟨if_neg e, h i hi⟩
theorem xe_up {q : dq_S} {k : Nat} {a b : Nat → Int32} (h : xe_enc N q a b) : xe_enc N (dq_up W q k) (upd a (k % 32) (q.2.1 (k / 32) + W k)) (upd b (k % 32) (q.2.2 (k / 32) + 1)) := by
  intro i hi
  by_cases e : i = k % 32
  · rw [e]
    exact Or.inr ⟨dq_u1, pk_us.trans dq_u2.symm, pk_us.trans dq_u3.symm⟩
  · rw [pk_un e, pk_un e, dq_n1 e, dq_n2 e, dq_n3 e]
    exact h i hi
/-- reached is not 2147483647 -/
theorem xe_ne {T i : Nat} {q : dq_S} (hT : T ≤ 32768) (hb : dq_bd T q) (h : q.1 i = 1) : ¬ q.2.1 i = 2147483647 := by
  intro e
  rcases hb i with z | ⟨_, z1, z2, _, _⟩
  · rw [h] at z
    exact yn_10 z
  · rw [e, dq_tM] at z2
    omega
theorem xn_slot {u v : Nat} : nI u * 32 + nI v = nI (32 * u + v) := by
  have e : nI u * 32 = nI (u * 32) := pk_mul u 32
  rw [e, nI_add, Nat.mul_comm]
theorem xs_slot {post : Int32 → Prop} {u v : Nat} (h : post (nI (32 * u + v))) : wpX_slotOf post () (nI u) (nI v) := by
  unfold wpX_slotOf
  rw [xn_slot]
  exact h
theorem xr_relax {post : Int32 → St2 → Prop} {T u v k : Nat} {q : dq_S} (hN : N ≤ 32) (hk : k < 1024) (eu : k / 32 = u) (ev : k % 32 = v) (hu : u < N) (hv : v < N) (hW : dq_gr W) (hT : T ≤ 32767) (hb : dq_bd T q) (he : xe_enc N q tD tH) (hw : ¬ W k = 2147483647) (hr : q.1 u = 1)
    (hF : ¬ dq_imp W N q k → post 0 (nI N, fm, fs, fe, fr, W, ds, ho, pa, tD, tH))
    (hI : dq_imp W N q k → ∀ a b : Nat → Int32, xe_enc N (dq_up W q k) a b → post 1 (nI N, fm, fs, fe, fr, W, ds, ho, pa, a, b)) :
    wpX_relax post (nI N, fm, fs, fe, fr, W, ds, ho, pa, tD, tH) (nI u) (nI v) (W k) := by
  have cu : (nI u).toNatClampNeg = u := nI_clamp (by omega)
  have cv : (nI v).toNatClampNeg = v := nI_clamp (by omega)
  have vu : vp_in (nI u) 32 := vp_in_nI (by omega) (by decide)
  have vv : vp_in (nI v) 32 := vp_in_nI (by omega) (by decide)
  have hr0 : ¬ q.1 u = 0 := by rw [hr]; exact yn_10
  obtain ⟨_, du, hu'⟩ := (he u hu).resolve_left (fun z => hr0 z.1)
  obtain ⟨a1, a2, u1, u2, u3, u4, w1, w2⟩ := dq_sums hW hk (by omega) hb hw hr0
  have hi : (q.1 v = 0 ∨ q.2.1 u + W k < q.2.1 v ∨ (q.2.1 u + W k = q.2.1 v ∧ q.2.2 u + 1 < q.2.2 v)) → dq_imp W N q k := fun x => by
    refine ⟨by omega, by omega, hw, ?_, ?_⟩
    · rw [eu]; exact hr0
    · rw [eu, ev]; exact x
  have hx : dq_imp W N q k → (q.1 v = 0 ∨ q.2.1 u + W k < q.2.1 v ∨ (q.2.1 u + W k = q.2.1 v ∧ q.2.2 u + 1 < q.2.2 v)) := fun c => by
    have c5 := c.2.2.2.2
    rw [eu, ev] at c5
    exact c5
  have h55 : dq_imp W N q k → wX_relax_55 post (nI v) (q.2.1 u + W k) (q.2.2 u + 1) (nI N) fm fs fe fr W ds ho pa tD tH := fun c => by
    have z := hI c _ _ (xe_up (k := k) he)
    rw [eu, ev] at z
    exact ⟨vv, nm_r (show upd tD (nI v).toNatClampNeg (q.2.1 u + W k) = upd tD v (q.2.1 u + W k) by rw [cv]) ⟨vv, nm_r (show upd tH (nI v).toNatClampNeg (q.2.2 u + 1) = upd tH v (q.2.2 u + 1) by rw [cv]) z⟩⟩
  refine ⟨vu, nm_r (show tD (nI u).toNatClampNeg + W k = q.2.1 u + W k by rw [cu, du]) ⟨vu, nm_r (show tH (nI u).toNatClampNeg + 1 = q.2.2 u + 1 by rw [cu, hu']) ⟨vv, ?_⟩⟩⟩
  rcases he v hv with ⟨r0, dv, hv'⟩ | ⟨r1, dv, hv'⟩
  · have n1 : ¬ (2147483647 : Int32) < q.2.1 u + W k := by
      rw [Int32.lt_iff_toInt_lt, a1, dq_tM]; omega
    have n2 : ¬ q.2.1 u + W k = 2147483647 := fun z => by
      have z' := congrArg Int32.toInt z
      rw [a1, dq_tM] at z'
      omega
    exact br_f (by rw [cv, dv]; exact n1) ⟨vv, br_f (by rw [cv, dv]; exact n2) (h55 (hi (Or.inl r0)))⟩
  · have r0 : ¬ q.1 v = 0 := by rw [r1]; exact yn_10
    by_cases b1 : q.2.1 v < q.2.1 u + W k
    · refine br_t (by rw [cv, dv]; exact b1) (hF fun c => ?_)
      rw [Int32.lt_iff_toInt_lt] at b1
      rcases hx c with z | z | z
      · exact r0 z
      · rw [Int32.lt_iff_toInt_lt] at z
        omega
      · rw [z.1] at b1
        omega
    · refine br_f (by rw [cv, dv]; exact b1) ⟨vv, ?_⟩
      by_cases b2 : q.2.1 u + W k = q.2.1 v
      · refine br_t (by rw [cv, dv]; exact b2) ⟨vv, ?_⟩
        by_cases b3 : q.2.2 u + 1 < q.2.2 v
        · exact br_t (by rw [cv, hv']; exact b3) (h55 (hi (Or.inr (Or.inr ⟨b2, b3⟩))))
        · refine br_f (by rw [cv, hv']; exact b3) (hF fun c => ?_)
          rcases hx c with z | z | z
          · exact r0 z
          · rw [Int32.lt_iff_toInt_lt, b2] at z
            omega
          · exact b3 z.2
      · refine br_f (by rw [cv, dv]; exact b2) (h55 (hi (Or.inr (Or.inl ?_))))
        rw [Int32.lt_iff_toInt_lt] at b1 ⊢
        have b4 : ¬ (q.2.1 u + W k).toInt = (q.2.1 v).toInt := fun z => b2 (Int32.toInt_inj.mp z)
        omega
theorem xr_step {post : Int32 → St2 → Prop} {J4 : Int32 → Int32 → Int32 → Int32 → Int32 → Int32 → Int32 → (Nat → Int32) → (Nat → Int32) → (Nat → Int32) → (Nat → Int32) → (Nat → Int32) → (Nat → Int32) → Prop} {x1 : Int32} {n T u v : Nat} {q : dq_S} (hN : N ≤ 32) (hu : u < N) (hv : v < N) (hW : dq_gr W) (hT : T ≤ 32767) (hb : dq_bd T q) (he : xe_enc N q tD tH)
    (hF : ¬ dq_imp W N q (32 * u + v) → wX_relaxAll_14 post J4 (nI u) n x1 (nI (v + 1)) (nI N) fm fs fe fr W ds ho pa tD tH)
    (hI : dq_imp W N q (32 * u + v) → ∀ a b : Nat → Int32, xe_enc N (dq_up W q (32 * u + v)) a b → wX_relaxAll_14 post J4 (nI u) n 1 (nI (v + 1)) (nI N) fm fs fe fr W ds ho pa a b) :
    wX_relaxAll_14 post J4 (nI u) (n + 1) x1 (nI v) (nI N) fm fs fe fr W ds ho pa tD tH := by
  have cu : (nI u).toNatClampNeg = u := nI_clamp (by omega)
  have ck : (nI (32 * u + v)).toNatClampNeg = 32 * u + v := nI_clamp (by omega)
  have eu : (32 * u + v) / 32 = u := by omega
  have ev : (32 * u + v) % 32 = v := by omega
  have hk : 32 * u + v < 1024 := by omega
  refine br_f (nI_ge hv (by omega)) (xs_slot ⟨vp_in_nI hk (by decide), nm_r (show W (nI (32 * u + v)).toNatClampNeg = W (32 * u + v) by rw [ck]) ?_⟩)
  by_cases c3 : W (32 * u + v) = 2147483647
  · exact br_t c3 (nm_r (nI_1 v) (hF fun c => c.2.2.1 c3))
  refine br_f c3 ⟨vp_in_nI (by omega) (by decide), ?_⟩
  rcases he u hu with ⟨r0, du, hu'⟩ | ⟨r1, du, hu'⟩
  · refine br_t (by rw [cu]; exact du) (nm_r (nI_1 v) (hF fun c => ?_))
    have c4 := c.2.2.2.1
    rw [eu] at c4
    exact c4 r0
  · refine br_f (by rw [cu, du]; exact xe_ne (by omega) hb r1) ?_
    refine xr_relax hN hk eu ev hu hv hW hT hb he c3 r1 (fun c => ?_) (fun c a b z => ?_)
    · exact br_t rfl (nm_r (nI_1 v) (hF c))
    · exact br_f yn_10 (nm_r (nI_1 v) (hI c a b z))
/-- the slots beyond the square do nothing -/
theorem xq_skip {j k : Nat} : ∀ e, k + e ≤ 1024 → (∀ i, k ≤ i → i < k + e → N ≤ i / 32 ∨ N ≤ i % 32) → dq_seq W N s (1024 * j + (k + e)) = dq_seq W N s (1024 * j + k) ∧ dq_ch W N s j (k + e) = dq_ch W N s j k := by
  intro e
  induction e with
  | zero => intro _ _; exact ⟨rfl, rfl⟩
  | succ e ih =>
    intro h1 h2
    obtain ⟨a, b⟩ := ih (by omega) (fun i hi hi2 => h2 i hi (by omega))
    have c : ¬ dq_imp W N (dq_seq W N s (1024 * j + (k + e))) (k + e) := fun c => by
      have z1 := c.1
      have z2 := c.2.1
      have z3 := h2 (k + e) (by omega) (by omega)
      omega
    refine ⟨?_, ?_⟩
    · show dq_seq W N s (1024 * j + (k + e + 1)) = _
      rw [dq_seqS (by omega), dq_st_f c, a]
    · show dq_ch W N s j (k + e + 1) = _
      rw [dq_chF c, b]
theorem xr_14 {post : Int32 → St2 → Prop} {J4 : Int32 → Int32 → Int32 → Int32 → Int32 → Int32 → Int32 → (Nat → Int32) → (Nat → Int32) → (Nat → Int32) → (Nat → Int32) → (Nat → Int32) → (Nat → Int32) → Prop} {j u : Nat} (hN : N ≤ 32) (hj : j < N) (hu : u < N) (hW : dq_gr W)
    (hJ : ∀ a b : Nat → Int32, xe_enc N (dq_seq W N s (1024 * j + 32 * (u + 1))) a b → J4 (dq_ch W N s j (32 * (u + 1))) (nI (u + 1)) (nI N) fm fs fe fr W ds ho pa a b) :
    ∀ e v, v + e = N → ∀ n, e < n → ∀ tD tH : Nat → Int32, xe_enc N (dq_seq W N s (1024 * j + (32 * u + v))) tD tH → wX_relaxAll_14 post J4 (nI u) n (dq_ch W N s j (32 * u + v)) (nI v) (nI N) fm fs fe fr W ds ho pa tD tH := by
  intro e
  induction e with
  | zero =>
    intro v hv n hn tD tH he
    obtain ⟨n', rfl⟩ : ∃ n', n = n' + 1 := ⟨n - 1, by omega⟩
    have hv2 : v = N := by omega
    subst hv2
    obtain ⟨a, b⟩ := xq_skip (W := W) (N := v) (s := s) (j := j) (k := 32 * u + v) (32 - v) (by omega) (fun i h1 h2 => by omega)
    rw [show 32 * u + v + (32 - v) = 32 * (u + 1) by omega] at a b
    rw [← a] at he
    rw [← b]
    exact br_t (nI_le (Nat.le_refl _) (by omega)) (nm_r (nI_1 u) (hJ tD tH he))
  | succ e ih =>
    intro v hv n hn tD tH he
    obtain ⟨n', rfl⟩ : ∃ n', n = n' + 1 := ⟨n - 1, by omega⟩
    have z := ih (v + 1) (by omega) n' (by omega)
    rw [show 32 * u + (v + 1) = 32 * u + v + 1 by omega, dq_seqS (by omega)] at z
    refine xr_step (T := 1024 * j + (32 * u + v)) hN hu (by omega) hW (by omega) (dq_bdT hW _ (by omega)) he (fun c => ?_) (fun c a b y => ?_)
    · rw [dq_chF c, dq_st_f c] at z
      exact z tD tH he
    · rw [dq_chT c, dq_st_t c] at z
      exact z a b y
theorem xr_4 {post : Int32 → St2 → Prop} {j : Nat} (hN : N ≤ 32) (hj : j < N) (hW : dq_gr W)
    (hp : ∀ a b : Nat → Int32, xe_enc N (dq_seq W N s (1024 * (j + 1))) a b → post (dq_ch W N s j 1024) (nI N, fm, fs, fe, fr, W, ds, ho, pa, a, b)) :
    ∀ e u, u + e = N → ∀ n, e < n → ∀ tD tH : Nat → Int32, xe_enc N (dq_seq W N s (1024 * j + 32 * u)) tD tH → wX_relaxAll_4 post n (dq_ch W N s j (32 * u)) (nI u) (nI N) fm fs fe fr W ds ho pa tD tH := by
  intro e
  induction e with
  | zero =>
    intro u hu n hn tD tH he
    obtain ⟨n', rfl⟩ : ∃ n', n = n' + 1 := ⟨n - 1, by omega⟩
    have hu2 : u = N := by omega
    subst hu2
    obtain ⟨a, b⟩ := xq_skip (W := W) (N := u) (s := s) (j := j) (k := 32 * u) (1024 - 32 * u) (by omega) (fun i h1 h2 => by omega)
    rw [show 32 * u + (1024 - 32 * u) = 1024 by omega] at a b
    rw [← a, show 1024 * j + 1024 = 1024 * (j + 1) by omega] at he
    rw [← b]
    exact br_t (nI_le (Nat.le_refl _) (by omega)) ⟨yn_nb (dq_ch01 1024), hp tD tH he⟩
  | succ e ih =>
    intro u hu n hn tD tH he
    obtain ⟨n', rfl⟩ : ∃ n', n = n' + 1 := ⟨n - 1, by omega⟩
    refine br_f (nI_ge (by omega) (by omega)) ⟨N + 1, ?_⟩
    exact xr_14 hN hj (by omega) hW (fun a b z => ih (u + 1) (by omega) n' (by omega) a b z) N 0 (by omega) (N + 1) (by omega) tD tH he
theorem xr_all {post : Int32 → St2 → Prop} {j : Nat} (hN : N ≤ 32) (hj : j < N) (hW : dq_gr W) (he : xe_enc N (dq_seq W N s (1024 * j)) tD tH)
    (hp : ∀ a b : Nat → Int32, xe_enc N (dq_seq W N s (1024 * (j + 1))) a b → post (dq_ch W N s j 1024) (nI N, fm, fs, fe, fr, W, ds, ho, pa, a, b)) :
    wpX_relaxAll post (nI N, fm, fs, fe, fr, W, ds, ho, pa, tD, tH) :=
  ⟨N + 1, xr_4 hN hj hW hp N 0 (by omega) (N + 1) (by omega) tD tH he⟩
theorem xs_47 {post : Int32 → St2 → Prop} (hN : N ≤ 32) (hN0 : 1 ≤ N) (hW : dq_gr W)
    (hp : ∀ a b : Nat → Int32, xe_enc N (dq_seq W N s (1024 * N)) a b → post (if dq_ch W N s (N - 1) 1024 = 0 then 1 else 0) (nI N, fm, fs, fe, fr, W, ds, ho, pa, a, b)) :
    ∀ e j, j + e = N → ∀ n, e < n → (1 ≤ j → ¬ dq_ch W N s (j - 1) 1024 = 0) → ∀ tD tH : Nat → Int32, xe_enc N (dq_seq W N s (1024 * j)) tD tH → wX_search_47 post n (nI j) (nI N) fm fs fe fr W ds ho pa tD tH := by
  intro e
  induction e with
  | zero =>
    intro j hj n hn hc tD tH he
    obtain ⟨n', rfl⟩ : ∃ n', n = n' + 1 := ⟨n - 1, by omega⟩
    have hj2 : j = N := by omega
    subst hj2
    have z := hp tD tH he
    rw [if_neg (hc hN0)] at z
    exact br_t (nI_le (Nat.le_refl _) (by omega)) z
  | succ e ih =>
    intro j hj n hn hc tD tH he
    obtain ⟨n', rfl⟩ : ∃ n', n = n' + 1 := ⟨n - 1, by omega⟩
    refine br_f (nI_ge (by omega) (by omega)) (xr_all hN (by omega) hW he fun a b z => ?_)
    by_cases c : dq_ch W N s j 1024 = 0
    · have e1 := (dq_later (j' := N) c (by omega)).1
      have e2 := (dq_later (j' := j + 1) c (by omega)).1
      have e3 := (dq_later (j' := N - 1) c (by omega)).2
      have y := hp a b (by rw [e1, ← e2]; exact z)
      rw [if_pos e3] at y
      exact br_t c y
    · exact br_f c (nm_r (nI_1 j) (ih (j + 1) (by omega) n' (by omega) (fun _ => c) a b z))
theorem xs_2 {post : Int32 → St2 → Prop} (hN : N ≤ 32) (hN0 : 1 ≤ N) (hs : s < N) (hW : dq_gr W)
    (hp : ∀ a b : Nat → Int32, xe_enc N (dq_seq W N s (1024 * N)) a b → post (if dq_ch W N s (N - 1) 1024 = 0 then 1 else 0) (nI N, fm, fs, fe, fr, W, ds, ho, pa, a, b)) :
    ∀ e i, i + e = N → ∀ n, e < n → ∀ tD tH : Nat → Int32, (∀ x, x < i → tD x = 2147483647 ∧ tH x = -1) → wX_search_2 post (nI s) (nI N) fm fs fe fr n (nI i) W ds ho pa tD tH := by
  intro e
  induction e with
  | zero =>
    intro i hi n hn tD tH hz
    obtain ⟨n', rfl⟩ : ∃ n', n = n' + 1 := ⟨n - 1, by omega⟩
    have hi2 : i = N := by omega
    subst hi2
    have es : (nI s).toNatClampNeg = s := nI_clamp (by omega)
    have vs : vp_in (nI s) 32 := vp_in_nI (by omega) (by decide)
    exact br_t (nI_le (Nat.le_refl _) (by omega)) ⟨vs, nm_r (show upd tD (nI s).toNatClampNeg 0 = upd tD s 0 by rw [es]) ⟨vs, nm_r (show upd tH (nI s).toNatClampNeg 0 = upd tH s 0 by rw [es]) ⟨i + 1, xs_47 hN hN0 hW hp i 0 (by omega) (i + 1) (by omega) (fun z => absurd z (by decide)) _ _ (xe_0 hz)⟩⟩⟩
  | succ e ih =>
    intro i hi n hn tD tH hz
    obtain ⟨n', rfl⟩ : ∃ n', n = n' + 1 := ⟨n - 1, by omega⟩
    have ei : (nI i).toNatClampNeg = i := nI_clamp (by omega)
    have vi : vp_in (nI i) 32 := vp_in_nI (by omega) (by decide)
    refine br_f (nI_ge (by omega) (by omega)) ⟨vi, nm_r (show upd tD (nI i).toNatClampNeg 2147483647 = upd tD i 2147483647 by rw [ei]) ⟨vi, nm_r (show upd tH (nI i).toNatClampNeg (-1) = upd tH i (-1) by rw [ei]) (nm_r (nI_1 i) (ih (i + 1) (by omega) n' (by omega) _ _ fun x hx => ?_))⟩⟩
    by_cases c : x = i
    · rw [c]
      exact ⟨pk_us, pk_us⟩
    · rw [pk_un c, pk_un c]
      exact hz x (by omega)
/-- the class's search from s -/
theorem xs_search {post : Int32 → St2 → Prop} (hN : N ≤ 32) (hN0 : 1 ≤ N) (hs : s < N) (hW : dq_gr W)
    (hp : ∀ a b : Nat → Int32, xe_enc N (dq_seq W N s (1024 * N)) a b → post (if dq_ch W N s (N - 1) 1024 = 0 then 1 else 0) (nI N, fm, fs, fe, fr, W, ds, ho, pa, a, b)) :
    wpX_search post (nI N, fm, fs, fe, fr, W, ds, ho, pa, tD, tH) (nI s) :=
  ⟨N + 1, xs_2 hN hN0 hs hW hp N 0 (by omega) (N + 1) (by omega) tD tH fun x hx => absurd hx (Nat.not_lt_zero _)⟩
/-- a slot changed, searched, restored -/
theorem xk_cons {post : Int32 → St2 → Prop} {k : Nat} {w : Int32} (hN : N ≤ 32) (hN0 : 1 ≤ N) (hs : s < N) (hk : k < 1024) (hW : dq_gr (upd W k w))
    (hp : ∀ a b : Nat → Int32, post (if dq_ch (upd W k w) N s (N - 1) 1024 = 0 then 1 else 0) (nI N, fm, nI s, fe, fr, W, ds, ho, pa, a, b)) :
    wpX_isConsistentWith post (nI N, fm, nI s, fe, fr, W, ds, ho, pa, tD, tH) (nI k) w := by
  have ck : (nI k).toNatClampNeg = k := nI_clamp (by omega)
  have vk : vp_in (nI k) 1024 := vp_in_nI hk (by decide)
  refine ⟨vk, nm_r (show W (nI k).toNatClampNeg = W k by rw [ck]) ⟨vk, nm_r (show upd W (nI k).toNatClampNeg w = upd W k w by rw [ck]) ?_⟩⟩
  refine xs_search hN hN0 hs hW fun a b _ => ?_
  have e : upd (upd W k w) (nI k).toNatClampNeg (W k) = W := by
    rw [ck]
    funext x
    by_cases c : x = k
    · rw [c]; exact pk_us
    · rw [pk_un c, pk_un c]
  refine ⟨vk, nm_r e ⟨yn_nb ?_, hp a b⟩⟩
  by_cases c : dq_ch (upd W k w) N s (N - 1) 1024 = 0
  · rw [if_pos c]; exact Or.inr rfl
  · rw [if_neg c]; exact Or.inl rfl
end
