section
variable {N s : Nat} {fm fs fe fr gm gc : Int32} {W ds ho pa tD tH pr wt d h r : Nat → Int32}
/-- how many are reached, of the first i -/
def rq_cnt (r : Nat → Int32) : Nat → Int32
  | 0 => 0
  | i + 1 => if r i = 0 then rq_cnt r i else rq_cnt r i + 1
/-- u is a tight predecessor of v -/
abbrev rq_tight (W : Nat → Int32) (q : dq_S) (u v : Nat) : Prop := ¬ W (32 * u + v) = 2147483647 ∧ ¬ q.1 u = 0 ∧ q.2.1 u + W (32 * u + v) = q.2.1 v ∧ q.2.2 u + 1 = q.2.2 v
/-- the first tight predecessor from u on, of e places -/
def rq_scan (W : Nat → Int32) (q : dq_S) (v : Nat) : Nat → Nat → Int32
  | 0, _ => -1
  | e + 1, u => if rq_tight W q u v then nI u else rq_scan W q v e (u + 1)
def rq_par (W : Nat → Int32) (N s : Nat) (q : dq_S) (v : Nat) : Int32 := if v = s then -1 else if q.1 v = 0 then -1 else rq_scan W q v N 0
theorem rq_scT {W : Nat → Int32} {q : dq_S} {v e u : Nat} (c : rq_tight W q u v) : rq_scan W q v (e + 1) u = nI u := if_pos c
theorem rq_scF {W : Nat → Int32} {q : dq_S} {v e u : Nat} (c : ¬ rq_tight W q u v) : rq_scan W q v (e + 1) u = rq_scan W q v e (u + 1) := if_neg c
/-- the class's isTight -/
theorem xp_tight {post : Int32 → Prop} {T u v : Nat} {q : dq_S} (hN : N ≤ 32) (hu : u < N) (hv : v < N) (hT : T ≤ 32768) (hb : dq_bd T q) (he : xe_enc N q ds ho) (hv0 : ¬ q.1 v = 0) (hp : post (if rq_tight W q u v then 1 else 0)) : wpX_isTight post (nI N, fm, fs, fe, fr, W, ds, ho, pa, tD, tH) (nI u) (nI v) := by
  have cu : (nI u).toNatClampNeg = u := nI_clamp (by omega)
  have cv : (nI v).toNatClampNeg = v := nI_clamp (by omega)
  have ck : (nI (32 * u + v)).toNatClampNeg = 32 * u + v := nI_clamp (by omega)
  have vu : vp_in (nI u) 32 := vp_in_nI (by omega) (by decide)
  have vv : vp_in (nI v) 32 := vp_in_nI (by omega) (by decide)
  have vk : vp_in (nI (32 * u + v)) 1024 := vp_in_nI (by omega) (by decide)
  obtain ⟨_, dv, hv'⟩ := (he v hv).resolve_left (fun z => hv0 z.1)
  unfold wpX_isTight
  refine xs_slot ⟨vk, ?_⟩
  by_cases c1 : W (32 * u + v) = 2147483647
  · rw [if_neg (fun c => c.1 c1)] at hp
    exact br_t (by rw [ck]; exact c1) hp
  refine br_f (by rw [ck]; exact c1) ⟨vu, ?_⟩
  rcases he u hu with ⟨r0, du, hu'⟩ | ⟨r1, du, hu'⟩
  · rw [if_neg (fun c => c.2.1 r0)] at hp
    exact br_t (by rw [cu]; exact du) hp
  have r0 : ¬ q.1 u = 0 := by rw [r1]; exact yn_10
  refine br_f (by rw [cu, du]; exact xe_ne hT hb r1) ⟨vu, vk, vv, ?_⟩
  by_cases c2 : q.2.1 u + W (32 * u + v) = q.2.1 v
  · refine br_t (by rw [cu, ck, cv, du, dv]; exact c2) ⟨vu, vv, ?_⟩
    by_cases c3 : q.2.2 u + 1 = q.2.2 v
    · rw [if_pos ⟨c1, r0, c2, c3⟩] at hp
      exact br_t (by rw [cu, cv, hu', hv']; exact c3) hp
    · rw [if_neg (fun c => c3 c.2.2.2)] at hp
      exact br_f (by rw [cu, cv, hu', hv']; exact c3) hp
  · rw [if_neg (fun c => c2 c.2.2.1)] at hp
    exact br_f (by rw [cu, ck, cv, du, dv]; exact c2) hp
theorem xp_23 {post : Int32 → Prop} {T v : Nat} {q : dq_S} (hN : N ≤ 32) (hv : v < N) (hT : T ≤ 32768) (hb : dq_bd T q) (he : xe_enc N q ds ho) (hv0 : ¬ q.1 v = 0) :
    ∀ e u, u + e = N → ∀ n, e < n → post (rq_scan W q v e u) → wX_leastParent_23 post (nI v) (nI N) fm fs fe fr W ds ho pa tD tH n (nI u) := by
  intro e
  induction e with
  | zero =>
    intro u hu n hn hp
    obtain ⟨n', rfl⟩ : ∃ n', n = n' + 1 := ⟨n - 1, by omega⟩
    exact br_t (nI_le (by omega) (by omega)) hp
  | succ e ih =>
    intro u hu n hn hp
    obtain ⟨n', rfl⟩ : ∃ n', n = n' + 1 := ⟨n - 1, by omega⟩
    refine br_f (nI_ge (by omega) (by omega)) (xp_tight hN (by omega) hv hT hb he hv0 ?_)
    by_cases c : rq_tight W q u v
    · rw [rq_scT c] at hp
      rw [if_pos c]
      exact br_f yn_10 hp
    · rw [rq_scF c] at hp
      rw [if_neg c]
      exact br_t rfl (nm_r (nI_1 u) (ih (u + 1) (by omega) n' (by omega) hp))
theorem xp_least {post : Int32 → Prop} {T v : Nat} {q : dq_S} (hN : N ≤ 32) (hs : s < N) (hv : v < N) (hT : T ≤ 32768) (hb : dq_bd T q) (he : xe_enc N q ds ho) (hp : post (rq_par W N s q v)) : wpX_leastParent post (nI N, fm, nI s, fe, fr, W, ds, ho, pa, tD, tH) (nI v) := by
  have cv : (nI v).toNatClampNeg = v := nI_clamp (by omega)
  unfold rq_par at hp
  by_cases c1 : v = s
  · rw [if_pos c1] at hp
    exact br_t (by rw [c1]) hp
  rw [if_neg c1] at hp
  refine br_f (fun z => c1 ((nI_eq (by omega) (by omega)).mp z)) ⟨vp_in_nI (by omega) (by decide), ?_⟩
  rcases he v hv with ⟨r0, dv, _⟩ | ⟨r1, dv, _⟩
  · rw [if_pos r0] at hp
    exact br_t (by rw [cv]; exact dv) hp
  · have r0 : ¬ q.1 v = 0 := by rw [r1]; exact yn_10
    rw [if_neg r0] at hp
    exact br_f (by rw [cv, dv]; exact xe_ne hT hb r1) ⟨N + 1, xp_23 hN hv hT hb he r0 N 0 (by omega) (N + 1) (by omega) hp⟩
/-- what the class keeps -/
def xf_ok (W : Nat → Int32) (N s : Nat) (ds ho pa : Nat → Int32) : Prop := xe_enc N (dq_seq W N s (1024 * N)) ds ho ∧ ∀ x, x < N → pa x = rq_par W N s (dq_seq W N s (1024 * N)) x
theorem xc_77 {post : St2 → Prop} {T : Nat} {q : dq_S} (hN : N ≤ 32) (hs : s < N) (hT : T ≤ 32768) (hb : dq_bd T q) (he : xe_enc N q ds ho)
    (hp : ∀ pa : Nat → Int32, (∀ x, x < N → pa x = rq_par W N s q x) → post (nI N, fm, nI s, fe, fr, W, ds, ho, pa, tD, tH)) :
    ∀ e i, i + e = N → ∀ n, e < n → ∀ pa : Nat → Int32, (∀ x, x < i → pa x = rq_par W N s q x) → wX_recompute_77 post (nI N) fm (nI s) fe fr n (nI i) W ds ho pa tD tH := by
  intro e
  induction e with
  | zero =>
    intro i hi n hn pa hz
    obtain ⟨n', rfl⟩ : ∃ n', n = n' + 1 := ⟨n - 1, by omega⟩
    have hi2 : i = N := by omega
    subst hi2
    exact br_t (nI_le (Nat.le_refl _) (by omega)) (hp pa hz)
  | succ e ih =>
    intro i hi n hn pa hz
    obtain ⟨n', rfl⟩ : ∃ n', n = n' + 1 := ⟨n - 1, by omega⟩
    have ei : (nI i).toNatClampNeg = i := nI_clamp (by omega)
    refine br_f (nI_ge (by omega) (by omega)) (xp_least hN hs (by omega) hT hb he ?_)
    refine ⟨vp_in_nI (by omega) (by decide), nm_r (show upd pa (nI i).toNatClampNeg (rq_par W N s q i) = upd pa i (rq_par W N s q i) by rw [ei]) (nm_r (nI_1 i) (ih (i + 1) (by omega) n' (by omega) _ fun x hx => ?_))⟩
    by_cases c : x = i
    · rw [c]; exact pk_us
    · rw [pk_un c]; exact hz x (by omega)
theorem xc_16 {post : St2 → Prop} {T : Nat} {q : dq_S} (hN : N ≤ 32) (hs : s < N) (hT : T ≤ 32768) (hb : dq_bd T q) (he : xe_enc N q tD tH)
    (hp : ∀ ds ho pa : Nat → Int32, xe_enc N q ds ho → (∀ x, x < N → pa x = rq_par W N s q x) → post (nI N, fm, nI s, fe, rq_cnt q.1 N, W, ds, ho, pa, tD, tH)) :
    ∀ e i, i + e = N → ∀ n, e < n → ∀ ds ho : Nat → Int32, (∀ x, x < i → ds x = tD x ∧ ho x = tH x) → wX_recompute_16 post (nI N) fm (nI s) fe n (nI i) (rq_cnt q.1 i) W ds ho pa tD tH := by
  intro e
  induction e with
  | zero =>
    intro i hi n hn ds ho hz
    obtain ⟨n', rfl⟩ : ∃ n', n = n' + 1 := ⟨n - 1, by omega⟩
    have hi2 : i = N := by omega
    subst hi2
    have he' : xe_enc i q ds ho := fun x hx => by
      rw [(hz x hx).1, (hz x hx).2]
      exact he x hx
    exact br_t (nI_le (Nat.le_refl _) (by omega)) ⟨i + 1, xc_77 hN hs hT hb he' (fun pa hpa => hp ds ho pa he' hpa) i 0 (by omega) (i + 1) (by omega) pa fun x hx => absurd hx (Nat.not_lt_zero _)⟩
  | succ e ih =>
    intro i hi n hn ds ho hz
    obtain ⟨n', rfl⟩ : ∃ n', n = n' + 1 := ⟨n - 1, by omega⟩
    have ei : (nI i).toNatClampNeg = i := nI_clamp (by omega)
    have vi : vp_in (nI i) 32 := vp_in_nI (by omega) (by decide)
    have z := ih (i + 1) (by omega) n' (by omega) (upd ds i (tD i)) (upd ho i (tH i)) (fun x hx => by
      by_cases c : x = i
      · rw [c]; exact ⟨pk_us, pk_us⟩
      · rw [pk_un c, pk_un c]; exact hz x (by omega))
    have ec : rq_cnt q.1 (i + 1) = if q.1 i = 0 then rq_cnt q.1 i else rq_cnt q.1 i + 1 := rfl
    rw [ec] at z
    refine br_f (nI_ge (by omega) (by omega)) ⟨vi, vi, nm_r (show upd ds (nI i).toNatClampNeg (tD (nI i).toNatClampNeg) = upd ds i (tD i) by rw [ei]) ⟨vi, vi, nm_r (show upd ho (nI i).toNatClampNeg (tH (nI i).toNatClampNeg) = upd ho i (tH i) by rw [ei]) ⟨vi, ?_⟩⟩⟩
    rcases he i (by omega) with ⟨r0, dv, _⟩ | ⟨r1, dv, _⟩
    · rw [if_pos r0] at z
      exact br_t (by rw [ei, pk_us]; exact dv) (nm_r (nI_1 i) z)
    · rw [if_neg (by rw [r1]; exact yn_10)] at z
      exact br_f (by rw [ei, pk_us, dv]; exact xe_ne hT hb r1) (nm_e (nm_r (nI_1 i) z))
/-- the class's recompute -/
theorem xc_rec {post : St2 → Prop} (hN : N ≤ 32) (hN0 : 1 ≤ N) (hs : s < N) (hW : dq_gr W)
    (hp : ∀ ds ho pa tD tH : Nat → Int32, xf_ok W N s ds ho pa → post (nI N, fm, nI s, fe, rq_cnt (dq_seq W N s (1024 * N)).1 N, W, ds, ho, pa, tD, tH)) :
    wpX_recompute post (nI N, fm, nI s, fe, fr, W, ds, ho, pa, tD, tH) := by
  unfold wpX_recompute
  refine xs_search hN hN0 hs hW fun a b z => ?_
  exact ⟨N + 1, xc_16 (T := 1024 * N) hN hs (by omega) (dq_bdT hW _ (by omega)) z (fun ds ho pa h1 h2 => hp ds ho pa a b ⟨h1, h2⟩) N 0 (by omega) (N + 1) (by omega) ds ho fun x hx => absurd hx (Nat.not_lt_zero _)⟩
end
