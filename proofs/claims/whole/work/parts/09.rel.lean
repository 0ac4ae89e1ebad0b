/-! the relation and the cases -/
section
variable {k N s m i j : Nat} {fe w : Int32} {W ds ho pa tD tH pr wt d h r : Nat → Int32}
def xl_Rel (k : Nat) (fn fm fs fe fr : Int32) (W ds ho pa : Nat → Int32) (gn gs gm gc : Int32) (pr wt d h r : Nat → Int32) : Prop :=
  ∃ N s m : Nat, fn = nI N ∧ gn = nI N ∧ fs = nI s ∧ gs = nI s ∧ fm = nI m ∧ gm = nI m ∧ fe = gc ∧ fr = rq_cnt (dq_seq W N s (1024 * N)).1 N ∧ 2 ≤ N ∧ N ≤ 32 ∧ s < N ∧ m ≤ 128 ∧ -(64 * (k : Int)) ≤ fe.toInt ∧ fe.toInt ≤ (m : Int) ∧ yg_ok W pr wt ∧ xf_ok W N s ds ho pa ∧ dq_ok W N s ∧ ∀ i, 32 ≤ i → r i = 0 ∧ d i = 0 ∧ h i = 0
def i_Rel (k : Nat) (u : SX) (v : SY) : Prop := match u with
  | (fn, fm, fs, fe, fr, W, ds, ho, pa, _, _) => match v with
    | (gn, gs, gm, gc, pr, wt, d, h, r) => xl_Rel k fn fm fs fe fr W ds ho pa gn gs gm gc pr wt d h r
theorem i_up {k : Nat} {u : SX} {v : SY} (h : i_Rel k u v) : i_Rel (k + 4) u v := by
  obtain ⟨fn, fm, fs, fe, fr, W, ds, ho, pa, tD, tH⟩ := u
  obtain ⟨gn, gs, gm, gc, pr, wt, d, hh, r⟩ := v
  obtain ⟨N, s, m, e1, e2, e3, e4, e5, e6, e7, e8, n2, n32, hs, hm, b1, b2, hg, hf, ho', hz⟩ := h
  exact ⟨N, s, m, e1, e2, e3, e4, e5, e6, e7, e8, n2, n32, hs, hm, by omega, b2, hg, hf, ho', hz⟩
theorem xl_mk (n2 : 2 ≤ N) (n32 : N ≤ 32) (hs : s < N) (hm : m ≤ 128) (b1 : -(64 * (k : Int)) ≤ fe.toInt) (b2 : fe.toInt ≤ (m : Int)) (hg : yg_ok W pr wt) (hf : xf_ok W N s ds ho pa) (hok : dq_ok W N s) (hz : ∀ i, 32 ≤ i → r i = 0 ∧ d i = 0 ∧ h i = 0) : i_Rel k (nI N, nI m, nI s, fe, rq_cnt (dq_seq W N s (1024 * N)).1 N, W, ds, ho, pa, tD, tH) (nI N, nI s, nI m, fe, pr, wt, d, h, r) :=
  ⟨N, s, m, rfl, rfl, rfl, rfl, rfl, rfl, rfl, rfl, n2, n32, hs, hm, b1, b2, hg, hf, hok, hz⟩
theorem xl_ti {a : Nat} (h : a ≤ 200) : (nI a).toInt = (a : Int) := nI_toInt (by omega)
theorem xl_sub {a b : Int32} (h1 : -2147483648 ≤ a.toInt - b.toInt) (h2 : a.toInt - b.toInt < 2147483648) : (a - b).toInt = a.toInt - b.toInt := by
  rw [Int32.toInt_sub]
  exact Int.bmod_eq_of_le (by omega) (by omega)
/-- a slot set to an allowed weight -/
theorem xl_set {q : Nat} (hg : yg_ok W pr wt) (w1 : ¬ w = 2147483647) (w2 : -1000 ≤ w.toInt) (w3 : w.toInt ≤ 1000) : yg_ok (upd W q w) (upd pr q 1) (upd wt q w) := by
  intro x hx
  by_cases c : x = q
  · rw [c, pk_us, pk_us, pk_us]
    exact Or.inr ⟨rfl, w1, rfl, w2, w3⟩
  · rw [pk_un c, pk_un c, pk_un c]
    exact hg x hx
theorem xl_put {q : Nat} (hg : yg_ok W pr wt) (hp : pr q = 1) (w1 : ¬ w = 2147483647) (w2 : -1000 ≤ w.toInt) (w3 : w.toInt ≤ 1000) : yg_ok (upd W q w) pr (upd wt q w) := by
  intro x hx
  by_cases c : x = q
  · rw [c, pk_us, pk_us]
    exact Or.inr ⟨hp, w1, rfl, w2, w3⟩
  · rw [pk_un c, pk_un c]
    exact hg x hx
theorem xl_back {q : Nat} {a b c : Int32} (hg : yg_ok W pr wt) (hw : W q = 2147483647) : yg_ok W (upd (upd pr q a) q 0) (upd (upd wt q b) q c) := by
  intro x hx
  by_cases e : x = q
  · rw [e, pk_us]
    exact Or.inl ⟨rfl, hw⟩
  · rw [pk_un e, pk_un e, pk_un e, pk_un e]
    exact hg x hx
theorem xl_bk {q : Nat} {a : Int32} : upd (upd wt q a) q (wt q) = wt := by
  funext x
  by_cases e : x = q
  · rw [e, pk_us]
  · rw [pk_un e, pk_un e]
theorem xl_same {q : Nat} (h : W q = w) : upd W q w = W := by
  funext x
  by_cases e : x = q
  · rw [e, pk_us, h]
  · rw [pk_un e]
theorem xl_del {q : Nat} (hg : yg_ok W pr wt) : yg_ok (upd W q 2147483647) (upd pr q 0) (upd wt q 0) := by
  intro x hx
  by_cases c : x = q
  · rw [c, pk_us, pk_us]
    exact Or.inl ⟨rfl, rfl⟩
  · rw [pk_un c, pk_un c, pk_un c]
    exact hg x hx
theorem xl_hi (hs : s < N) (hN : N ≤ 32) : ∀ x, 32 ≤ x → (dq_seq W N s (1024 * N)).1 x = 0 ∧ (dq_seq W N s (1024 * N)).2.1 x = 0 ∧ (dq_seq W N s (1024 * N)).2.2 x = 0 := dq_hi (by omega) _
theorem xl_lt (hm : m ≤ 128) : fe < nI m ↔ fe.toInt < (m : Int) := by
  rw [Int32.lt_iff_toInt_lt, xl_ti (by omega)]
theorem xl_eq (hm : m ≤ 128) : fe = nI m ↔ fe.toInt = (m : Int) := by
  rw [← Int32.toInt_inj, xl_ti (by omega)]
theorem xl_inc (hm : m ≤ 128) (hk : k ≤ 2051) (b1 : -(64 * (k : Int)) ≤ fe.toInt) (f : fe.toInt < (m : Int)) : -(64 * ((k + 4 : Nat) : Int)) ≤ (fe + 1).toInt ∧ (fe + 1).toInt ≤ (m : Int) := by
  rw [dq_add (by rw [dq_t1]; omega) (by rw [dq_t1]; omega), dq_t1]
  omega
theorem xl_dec {t : Nat} (ht : t ≤ 64) (hm : m ≤ 128) (hk : k ≤ 2051) (b1 : -(64 * (k : Int)) ≤ fe.toInt) (b2 : fe.toInt ≤ (m : Int)) : -(64 * ((k + 4 : Nat) : Int)) ≤ (fe - nI t).toInt ∧ (fe - nI t).toInt ≤ (m : Int) := by
  have e := xl_ti (a := t) (by omega)
  rw [xl_sub (by rw [e]; omega) (by rw [e]; omega), e]
  omega
end
section
/-! the constructors -/
theorem xl_clamp (p : Int32) {a b : Nat} (hab : a ≤ b) (hb : b < 2 ^ 31) : ∃ c, a ≤ c ∧ c ≤ b ∧ ((nI a ≤ p ∧ p ≤ nI b ∧ p = nI c) ∨ (nI a ≤ p ∧ ¬ p ≤ nI b ∧ c = b) ∨ (¬ nI a ≤ p ∧ c = a)) := by
  by_cases h1 : nI a ≤ p
  · by_cases h2 : p ≤ nI b
    · have h0 : ¬ p < 0 := fun z => by
        rw [Int32.le_iff_toInt_le, nI_toInt (by omega)] at h1
        rw [Int32.lt_iff_toInt_lt, dq_t0] at z
        omega
      obtain ⟨c, hc, rfl⟩ := nI_of h0
      exact ⟨c, (nI_leI (by omega) hc).mp h1, (nI_leI hc hb).mp h2, Or.inl ⟨h1, h2, rfl⟩⟩
    · exact ⟨b, hab, Nat.le_refl _, Or.inr (Or.inl ⟨h1, h2, rfl⟩)⟩
  · exact ⟨a, Nat.le_refl _, hab, Or.inr (Or.inr ⟨h1, rfl⟩)⟩
def xl_is (p : Int32) (a b c : Nat) : Prop := (nI a ≤ p ∧ p ≤ nI b ∧ p = nI c) ∨ (nI a ≤ p ∧ ¬ p ≤ nI b ∧ c = b) ∨ (¬ nI a ≤ p ∧ c = a)
theorem xl_cx {post : Int32 → Prop} {p : Int32} {a b c : Nat} (h : xl_is p a b c) (hp : post (nI c)) : wpX_clamp post p (nI a) (nI b) := by
  rcases h with ⟨h1, h2, e⟩ | ⟨h1, h2, e⟩ | ⟨h1, e⟩
  · rw [← e] at hp
    exact br_t h1 (br_t h2 hp)
  · rw [e] at hp
    exact br_t h1 (br_f h2 hp)
  · rw [e] at hp
    exact br_f h1 hp
/-- all slots cleared -/
def xl_clr : Nat → Int32 := fun x => if x < 1024 then 2147483647 else 0
theorem xl_clr1 {x : Nat} (h : x < 1024) : xl_clr x = 2147483647 := if_pos h
theorem xl_cw {post : SX → Prop} {fn fm fs fe fr : Int32} {ds ho pa tD tH : Nat → Int32} (hp : post (fn, fm, fs, fe, fr, xl_clr, ds, ho, pa, tD, tH)) : ∀ e i, i + e = 1024 → ∀ n, e < n → ∀ W : Nat → Int32, (∀ x, (x < i → W x = 2147483647) ∧ (i ≤ x → W x = 0)) → wX_clearWeights_2 post fn fm fs fe fr n (nI i) W ds ho pa tD tH := by
  intro e
  induction e with
  | zero =>
    intro i hi n hn W hz
    obtain ⟨n', rfl⟩ : ∃ n', n = n' + 1 := ⟨n - 1, by omega⟩
    have hi2 : i = 1024 := by omega
    subst hi2
    have eW : W = xl_clr := by
      funext x
      unfold xl_clr
      by_cases c : x < 1024
      · rw [if_pos c]; exact (hz x).1 c
      · rw [if_neg c]; exact (hz x).2 (by omega)
    rw [eW]
    exact br_t (nI_le (a := 1024) (b := 1024) (Nat.le_refl _) (by decide)) hp
  | succ e ih =>
    intro i hi n hn W hz
    obtain ⟨n', rfl⟩ : ∃ n', n = n' + 1 := ⟨n - 1, by omega⟩
    have hk : i < 1024 := by omega
    refine br_f (nI_ge (b := 1024) hk (by decide)) ⟨xn_v hk, nm_r (show upd W (nI i).toNatClampNeg 2147483647 = upd W i 2147483647 by rw [xn_c hk]) (nm_r (nI_1 i) (ih (i + 1) (by omega) n' (by omega) _ fun x => ⟨fun hx => ?_, fun hx => ?_⟩))⟩
    · by_cases c : x = i
      · rw [c]; exact pk_us
      · rw [pk_un c]; exact (hz x).1 (by omega)
    · rw [pk_un (by omega)]; exact (hz x).2 (by omega)
theorem xl_x0 {post : SX → Prop} {k0 k1 k2 : Int32} {N s m : Nat} (hN0 : 2 ≤ N) (hN : N ≤ 32) (hs : s < N) (h0 : xl_is k0 2 32 N) (h1 : xl_is k1 0 (N - 1) s) (h2 : xl_is k2 1 128 m)
    (hp : ∀ ds ho pa tD tH : Nat → Int32, xf_ok xl_clr N s ds ho pa → post (nI N, nI m, nI s, 0, rq_cnt (dq_seq xl_clr N s (1024 * N)).1 N, xl_clr, ds, ho, pa, tD, tH)) : wpX_init post k0 k1 k2 := by
  have e1 : nI N - 1 = nI (N - 1) := pk_sub (b := 1) (by omega)
  unfold wpX_init
  refine xl_cx h0 ?_
  rw [e1]
  refine xl_cx h1 (xl_cx h2 ?_)
  refine ⟨1025, xl_cw ?_ 1024 0 (by omega) 1025 (by decide) _ (fun x => ⟨fun hx => absurd hx (Nat.not_lt_zero _), fun _ => rfl⟩)⟩
  exact xc_rec hN (by omega) hs (fun x hx => Or.inl (xl_clr1 hx)) fun ds ho pa tD tH z => hp ds ho pa tD tH z
theorem xl_y0 {post : SY → Prop} {k0 k1 k2 : Int32} {N s m : Nat} (hN0 : 2 ≤ N) (hN : N ≤ 32) (hs : s < N) (h0 : xl_is k0 2 32 N) (h1 : xl_is k1 0 (N - 1) s) (h2 : xl_is k2 1 128 m)
    (hp : post (nI N, nI s, nI m, 0, fun _ => 0, fun _ => 0, fun _ => 0, fun _ => 0, fun _ => 0)) : wpY_init post k0 k1 k2 := by
  have e1 : nI N - 1 = nI (N - 1) := pk_sub (b := 1) (by omega)
  have A3 : ∀ x4 x5 : Int32, x4 = nI N → x5 = nI s → wY_init_95 post k2 x4 x5 0 0 0 0 (fun _ => 0) (fun _ => 0) (fun _ => 0) (fun _ => 0) (fun _ => 0) := by
    intro x4 x5 e4 e5
    subst e4 e5
    unfold wY_init_95 wY_init_107 wY_init_120
    rcases h2 with ⟨a, b, e⟩ | ⟨a, b, e⟩ | ⟨a, e⟩
    · rw [← e] at hp
      exact br_t a (br_t b hp)
    · rw [e] at hp
      exact br_t a (br_f b hp)
    · rw [e] at hp
      exact br_f a (br_t (by decide) hp)
  have A2 : ∀ x4 : Int32, x4 = nI N → wY_init_69 post k1 k2 x4 0 0 0 0 (fun _ => 0) (fun _ => 0) (fun _ => 0) (fun _ => 0) (fun _ => 0) := by
    intro x4 e4
    unfold wY_init_69 wY_init_80
    rcases h1 with ⟨a, b, e⟩ | ⟨a, b, e⟩ | ⟨a, e⟩
    · exact br_t a (br_t (by rw [e4, e1]; exact b) (A3 x4 k1 e4 e))
    · exact br_t a (br_f (by rw [e4, e1]; exact b) (nm_e (A3 x4 _ e4 (by rw [e4, e1, e]))))
    · exact br_f a (br_t (by rw [e4, e1]; exact nI_le (a := 0) (by omega) (by omega)) (A3 x4 0 e4 (by rw [e, nI_0])))
  unfold wpY_init wY_init_58
  rcases h0 with ⟨a, b, e⟩ | ⟨a, b, e⟩ | ⟨a, e⟩
  · exact br_t a (br_t b (A2 k0 e))
  · exact br_t a (br_f b (A2 32 (by rw [e]; rfl)))
  · exact br_f a (br_t (by decide) (A2 2 (by rw [e]; rfl)))
theorem i_vc0 (k0 : Int32) (k1 : Int32) (k2 : Int32) : wpX_init (fun u => wpY_init (fun v => i_Rel 3 u v) k0 k1 k2) k0 k1 k2 := by
  obtain ⟨N, a1, a2, h0⟩ := xl_clamp k0 (a := 2) (b := 32) (by decide) (by decide)
  obtain ⟨s, b1, b2, h1⟩ := xl_clamp k1 (a := 0) (b := N - 1) (by omega) (by omega)
  obtain ⟨m, c1, c2, h2⟩ := xl_clamp k2 (a := 1) (b := 128) (by decide) (by decide)
  refine xl_x0 a1 a2 (by omega) h0 h1 h2 fun ds ho pa tD tH hf => ?_
  refine xl_y0 a1 a2 (by omega) h0 h1 h2 ?_
  exact xl_mk a1 a2 (by omega) (by omega) (by rw [dq_t0]; omega) (by rw [dq_t0]; omega) (fun x hx => Or.inl ⟨rfl, xl_clr1 hx⟩) hf (dq_ok0 a2 (fun _ => xl_clr1)) (fun _ _ => ⟨rfl, rfl, rfl⟩)
end
