/-! the reference's compute against the process -/
section
variable {N s : Nat} {gs gm gc : Int32} {W pr wt d h r : Nat → Int32}
/-- the class's graph and the reference's -/
def yg_ok (W pr wt : Nat → Int32) : Prop := ∀ k, k < 1024 → (pr k = 0 ∧ W k = 2147483647) ∨ (pr k = 1 ∧ ¬ W k = 2147483647 ∧ wt k = W k ∧ -1000 ≤ (W k).toInt ∧ (W k).toInt ≤ 1000)
theorem yg_gr (h : yg_ok W pr wt) : dq_gr W := by
  intro k hk
  rcases h k hk with ⟨_, a⟩ | ⟨_, _, _, a, b⟩
  · exact Or.inl a
  · exact Or.inr ⟨a, b⟩
theorem yn_10 : ¬ (1 : Int32) = 0 := by decide
theorem yn_b1 : vp_nar .boolean 1 = 1 := by decide
theorem yn_b0 : vp_nar .boolean 0 = 0 := by decide
theorem yn_nb {x : Int32} (h : x = 0 ∨ x = 1) : narrow .boolean (.int x) = .int x := by
  rcases h with e | e
  · rw [e]; rfl
  · rw [e]; rfl
theorem yc_step {post : Int32 → SY → Prop} {J49 : Int32 → Int32 → (Nat → Int32) → (Nat → Int32) → (Nat → Int32) → (Nat → Int32) → (Nat → Int32) → Prop} {x2 x1 : Int32} {n k : Nat} {q : dq_S} (hN : N ≤ 32) (hk : k < 1024) (hg : yg_ok W pr wt)
    (hF : ¬ dq_imp W N q k → wY_compute_61 post J49 x2 (nI N) gs gm gc n x1 (nI (k + 1)) pr wt q.2.1 q.2.2 q.1)
    (hT : dq_imp W N q k → wY_compute_61 post J49 x2 (nI N) gs gm gc n 1 (nI (k + 1)) pr wt (dq_up W q k).2.1 (dq_up W q k).2.2 (dq_up W q k).1) :
    wY_compute_61 post J49 x2 (nI N) gs gm gc (n + 1) x1 (nI k) pr wt q.2.1 q.2.2 q.1 := by
  obtain ⟨r, d, h⟩ := q
  have hk' : ¬ (1024 : Int32) ≤ nI k := nI_ge (b := 1024) hk (by decide)
  have e4 : nI k / 32 = nI (k / 32) := pk_div (d := 32) (by omega) (by decide) (by decide)
  have e5 : nI k - nI k / 32 * 32 = nI (k % 32) := pk_rem (d := 32) (by omega) (by decide) (by decide)
  have ek : (nI k).toNatClampNeg = k := nI_clamp (by omega)
  have eu : (nI (k / 32)).toNatClampNeg = k / 32 := nI_clamp (by omega)
  have ev : (nI (k % 32)).toNatClampNeg = k % 32 := nI_clamp (by omega)
  have vk : vp_in (nI k) 1024 := vp_in_nI hk (by decide)
  have vu : vp_in (nI (k / 32)) 32 := vp_in_nI (by omega) (by decide)
  have vv : vp_in (nI (k % 32)) 32 := vp_in_nI (by omega) (by decide)
  have n32 : ¬ (32 : Int32) = 0 := by decide
  have hT' : dq_imp W N (r, d, h) k → wY_compute_190 post J49 (wY_compute_61 post J49 x2 (nI N) gs gm gc n) x2 (nI k) (nI (k % 32)) (d (k / 32) + W k) (h (k / 32) + 1) (nI N) gs gm gc pr wt d h r := fun c =>
    ⟨vv, nm_r (show upd r (nI (k % 32)).toNatClampNeg (vp_nar .boolean 1) = upd r (k % 32) 1 by rw [ev, yn_b1]) ⟨vv, nm_r (show upd d (nI (k % 32)).toNatClampNeg (d (k / 32) + W k) = upd d (k % 32) (d (k / 32) + W k) by rw [ev]) ⟨vv, nm_r (show upd h (nI (k % 32)).toNatClampNeg (h (k / 32) + 1) = upd h (k % 32) (h (k / 32) + 1) by rw [ev]) (nm_r (nI_1 k) (hT c))⟩⟩⟩
  refine br_f hk' ⟨n32, nm_r e4 ⟨n32, nm_r e5 ?_⟩⟩
  by_cases a1 : N ≤ k / 32
  · exact br_t (nI_le a1 (by omega)) (nm_r (nI_1 k) (hF fun c => absurd c.1 (by omega)))
  refine br_f (nI_ge (by omega) (by omega)) ?_
  by_cases a2 : N ≤ k % 32
  · exact br_t (nI_le a2 (by omega)) (nm_r (nI_1 k) (hF fun c => absurd c.2.1 (by omega)))
  refine br_f (nI_ge (by omega) (by omega)) ⟨vk, ?_⟩
  rcases hg k hk with ⟨p0, w0⟩ | ⟨p1, w1, ew, _, _⟩
  · exact br_t (by rw [ek]; exact p0) (nm_r (nI_1 k) (hF fun c => c.2.2.1 w0))
  refine br_f (by rw [ek, p1]; exact yn_10) ⟨vu, ?_⟩
  by_cases a3 : r (k / 32) = 0
  · exact br_t (by rw [eu]; exact a3) (nm_r (nI_1 k) (hF fun c => c.2.2.2.1 a3))
  refine br_f (by rw [eu]; exact a3) ⟨vu, vk, nm_r (show d (nI (k / 32)).toNatClampNeg + wt (nI k).toNatClampNeg = d (k / 32) + W k by rw [eu, ek, ew]) ⟨vu, nm_r (show h (nI (k / 32)).toNatClampNeg + 1 = h (k / 32) + 1 by rw [eu]) ⟨vv, ?_⟩⟩⟩
  by_cases a4 : r (k % 32) = 0
  · exact br_t (by rw [ev]; exact a4) (hT' ⟨by omega, by omega, w1, a3, Or.inl a4⟩)
  refine br_f (by rw [ev]; exact a4) ⟨vv, ?_⟩
  by_cases a5 : d (k / 32) + W k < d (k % 32)
  · exact br_t (by rw [ev]; exact a5) (hT' ⟨by omega, by omega, w1, a3, Or.inr (Or.inl a5)⟩)
  refine br_f (by rw [ev]; exact a5) ⟨vv, ?_⟩
  by_cases a6 : d (k / 32) + W k = d (k % 32)
  · refine br_t (by rw [ev]; exact a6) ⟨vv, ?_⟩
    by_cases a7 : h (k % 32) ≤ h (k / 32) + 1
    · refine br_t (by rw [ev]; exact a7) (nm_r (nI_1 k) (hF fun c => ?_))
      rcases c.2.2.2.2 with z | z | z
      · exact a4 z
      · exact a5 z
      · exact absurd a7 (Int32.not_le.mpr z.2)
    · exact br_f (by rw [ev]; exact a7) (hT' ⟨by omega, by omega, w1, a3, Or.inr (Or.inr ⟨a6, Int32.not_le.mp a7⟩)⟩)
  · refine br_f (by rw [ev]; exact a6) (nm_r (nI_1 k) (hF fun c => ?_))
    rcases c.2.2.2.2 with z | z | z
    · exact a4 z
    · exact a5 z
    · exact a6 z.1
theorem yc_61 {post : Int32 → SY → Prop} {J49 : Int32 → Int32 → (Nat → Int32) → (Nat → Int32) → (Nat → Int32) → (Nat → Int32) → (Nat → Int32) → Prop} {j : Nat} (hN : N ≤ 32) (hg : yg_ok W pr wt)
    (hJ : J49 (dq_ch W N s j 1024) (nI (j + 1)) pr wt (dq_seq W N s (1024 * (j + 1))).2.1 (dq_seq W N s (1024 * (j + 1))).2.2 (dq_seq W N s (1024 * (j + 1))).1) :
    ∀ e k, k + e = 1024 → ∀ n, e < n → wY_compute_61 post J49 (nI j) (nI N) gs gm gc n (dq_ch W N s j k) (nI k) pr wt (dq_seq W N s (1024 * j + k)).2.1 (dq_seq W N s (1024 * j + k)).2.2 (dq_seq W N s (1024 * j + k)).1 := by
  intro e
  induction e with
  | zero =>
    intro k hk n hn
    obtain ⟨n', rfl⟩ : ∃ n', n = n' + 1 := ⟨n - 1, by omega⟩
    have hk2 : k = 1024 := by omega
    subst hk2
    rw [show 1024 * j + 1024 = 1024 * (j + 1) by omega]
    exact br_t (nI_le (a := 1024) (b := 1024) (Nat.le_refl _) (by decide)) (nm_r (nI_1 j) hJ)
  | succ e ih =>
    intro k hk n hn
    obtain ⟨n', rfl⟩ : ∃ n', n = n' + 1 := ⟨n - 1, by omega⟩
    have z := ih (k + 1) (by omega) n' (by omega)
    rw [dq_seqS (by omega)] at z
    refine yc_step hN (by omega) hg (fun c => ?_) (fun c => ?_)
    · rw [dq_chF c, dq_st_f c] at z
      exact z
    · rw [dq_chT c, dq_st_t c] at z
      exact z
theorem yc_49 {post : Int32 → SY → Prop} (hN : N ≤ 32) (hN0 : 1 ≤ N) (hg : yg_ok W pr wt)
    (hp : post (if dq_ch W N s (N - 1) 1024 = 0 then 1 else 0) (nI N, gs, gm, gc, pr, wt, (dq_seq W N s (1024 * N)).2.1, (dq_seq W N s (1024 * N)).2.2, (dq_seq W N s (1024 * N)).1)) :
    ∀ e j, j + e = N → ∀ n, e < n → ∀ x1, (1 ≤ j → x1 = dq_ch W N s (j - 1) 1024) → wY_compute_49 post (nI N) gs gm gc n x1 (nI j) pr wt (dq_seq W N s (1024 * j)).2.1 (dq_seq W N s (1024 * j)).2.2 (dq_seq W N s (1024 * j)).1 := by
  intro e
  induction e with
  | zero =>
    intro j hj n hn x1 hx
    obtain ⟨n', rfl⟩ : ∃ n', n = n' + 1 := ⟨n - 1, by omega⟩
    have hj2 : j = N := by omega
    subst hj2
    rw [hx hN0]
    refine br_t (nI_le (Nat.le_refl _) (by omega)) ?_
    by_cases c : dq_ch W j s (j - 1) 1024 = 0
    · rw [if_pos c] at hp
      exact br_t c hp
    · rw [if_neg c] at hp
      exact br_f c hp
  | succ e ih =>
    intro j hj n hn x1 hx
    obtain ⟨n', rfl⟩ : ∃ n', n = n' + 1 := ⟨n - 1, by omega⟩
    refine br_f (nI_ge (by omega) (by omega)) ⟨1025, ?_⟩
    exact yc_61 hN hg (ih (j + 1) (by omega) n' (by omega) _ (fun _ => rfl)) 1024 0 rfl 1025 (by decide)
theorem yc_2 {post : Int32 → SY → Prop} (hN : N ≤ 32) (hN0 : 1 ≤ N) (hs : s < N) (hg : yg_ok W pr wt)
    (hp : post (if dq_ch W N s (N - 1) 1024 = 0 then 1 else 0) (nI N, nI s, gm, gc, pr, wt, (dq_seq W N s (1024 * N)).2.1, (dq_seq W N s (1024 * N)).2.2, (dq_seq W N s (1024 * N)).1)) :
    ∀ e i, i + e = 32 → ∀ n, e < n → ∀ d h r : Nat → Int32, (∀ x, x < i ∨ 32 ≤ x → r x = 0 ∧ d x = 0 ∧ h x = 0) → wY_compute_2 post (nI N) (nI s) gm gc n (nI i) pr wt d h r := by
  intro e
  induction e with
  | zero =>
    intro i hi n hn d h r hz
    obtain ⟨n', rfl⟩ : ∃ n', n = n' + 1 := ⟨n - 1, by omega⟩
    have hi2 : i = 32 := by omega
    subst hi2
    have e1 : r = fun _ => 0 := funext fun x => (hz x (by omega)).1
    have e2 : d = fun _ => 0 := funext fun x => (hz x (by omega)).2.1
    have e3 : h = fun _ => 0 := funext fun x => (hz x (by omega)).2.2
    have es : (nI s).toNatClampNeg = s := nI_clamp (by omega)
    subst e1 e2 e3
    exact br_t (nI_le (a := 32) (b := 32) (Nat.le_refl _) (by decide)) ⟨vp_in_nI (by omega) (by decide), nm_r (show upd (fun _ => 0) (nI s).toNatClampNeg (vp_nar .boolean 1) = upd (fun _ => 0) s 1 by rw [es, yn_b1]) ⟨N + 1, yc_49 hN hN0 hg hp N 0 (by omega) (N + 1) (by omega) 0 (fun z => absurd z (by decide))⟩⟩
  | succ e ih =>
    intro i hi n hn d h r hz
    obtain ⟨n', rfl⟩ : ∃ n', n = n' + 1 := ⟨n - 1, by omega⟩
    have ei : (nI i).toNatClampNeg = i := nI_clamp (by omega)
    have vi : vp_in (nI i) 32 := vp_in_nI (by omega) (by decide)
    refine br_f (nI_ge (b := 32) (by omega) (by decide)) ⟨vi, nm_r (show upd r (nI i).toNatClampNeg (vp_nar .boolean 0) = upd r i 0 by rw [ei, yn_b0]) ⟨vi, nm_r (show upd d (nI i).toNatClampNeg 0 = upd d i 0 by rw [ei]) ⟨vi, nm_r (show upd h (nI i).toNatClampNeg 0 = upd h i 0 by rw [ei]) (nm_r (nI_1 i) (ih (i + 1) (by omega) n' (by omega) _ _ _ fun x hx => ?_))⟩⟩⟩
    by_cases c : x = i
    · rw [c]
      exact ⟨pk_us, pk_us, pk_us⟩
    · rw [pk_un c, pk_un c, pk_un c]
      exact hz x (by omega)
/-- the reference's compute -/
theorem yc_compute {post : Int32 → SY → Prop} (hN : N ≤ 32) (hN0 : 1 ≤ N) (hs : s < N) (hg : yg_ok W pr wt) (hz : ∀ x, 32 ≤ x → r x = 0 ∧ d x = 0 ∧ h x = 0)
    (hp : post (if dq_ch W N s (N - 1) 1024 = 0 then 1 else 0) (nI N, nI s, gm, gc, pr, wt, (dq_seq W N s (1024 * N)).2.1, (dq_seq W N s (1024 * N)).2.2, (dq_seq W N s (1024 * N)).1)) :
    wpY_compute post (nI N, nI s, gm, gc, pr, wt, d, h, r) :=
  ⟨33, yc_2 hN hN0 hs hg hp 32 0 rfl 33 (by decide) d h r fun x hx => hz x (by omega)⟩
end
