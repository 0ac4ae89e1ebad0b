/-! the law's same, over two objects of one graph and source -/
section
variable {N s u v x : Nat} {fn fm fs fe fr : Int32} {W ds ho pa tD tH ds' ho' pa' tD' tH' : Nat → Int32}
theorem px_vc {post : Int32 → Prop} (h : post fn) : wpX_vertexCount post (fn, fm, fs, fe, fr, W, ds, ho, pa, tD, tH) := h
theorem px_gs {post : Int32 → Prop} (h : post fs) : wpX_getSource post (fn, fm, fs, fe, fr, W, ds, ho, pa, tD, tH) := h
theorem px_ec {post : Int32 → Prop} (h : post fe) : wpX_edgeCount post (fn, fm, fs, fe, fr, W, ds, ho, pa, tD, tH) := h
theorem px_rc {post : Int32 → Prop} (h : post fr) : wpX_reachableCount post (fn, fm, fs, fe, fr, W, ds, ho, pa, tD, tH) := h
theorem ps_124 {post : Int32 → Prop} {J56 : Int32 → Prop} (hN : N ≤ 32) (hv : v < N) (hJ : J56 (nI (v + 1))) : ∀ e x, x + e = N → ∀ n, e < n → wL_same_124 post J56 (nI N) (nI v) (nI N) fm (nI s) fe fr W ds ho pa tD tH (nI N) fm (nI s) fe fr W ds' ho' pa' tD' tH' n (nI x) := by
  intro e
  induction e with
  | zero =>
    intro x hx n hn
    obtain ⟨n', rfl⟩ : ∃ n', n = n' + 1 := ⟨n - 1, by omega⟩
    exact br_t (nI_le (by omega) (by omega)) (nm_r (nI_1 v) hJ)
  | succ e ih =>
    intro x hx n hn
    obtain ⟨n', rfl⟩ : ∃ n', n = n' + 1 := ⟨n - 1, by omega⟩
    have hxN : x < N := by omega
    have z := ih (x + 1) (by omega) n' (by omega)
    refine br_f (nI_ge (by omega) (by omega)) (pv_e hN hxN hv (fun c => pv_e hN hxN hv (fun _ => br_t rfl ?_) (fun y => absurd c y)) (fun c => pv_e hN hxN hv (fun y => absurd y c) (fun _ => br_t rfl ?_)))
    · exact xo_o hN hxN hv (xo_o hN hxN hv (br_t rfl (nm_r (nI_1 x) z)))
    · exact xo_o hN hxN hv (xo_o hN hxN hv (br_t rfl (nm_r (nI_1 x) z)))
theorem ps_eq (I : pv_ok W N s ds ho pa) (I' : pv_ok W N s ds' ho' pa') (hx : x < N) : ds x = ds' x ∧ ho x = ho' x ∧ pa x = pa' x := by
  have p : pa x = pa' x := (I.2.2.2.2.2.2 x hx).trans (I'.2.2.2.2.2.2 x hx).symm
  rcases ph_01 (s := s) I.2.2.2.1 I.2.1 x with r | r
  · obtain ⟨a, b, _⟩ := pv_0 I hx r
    obtain ⟨a', b', _⟩ := pv_0 I' hx r
    exact ⟨a.trans a'.symm, b.trans b'.symm, p⟩
  · obtain ⟨a, b⟩ := pv_1 I hx r
    obtain ⟨a', b'⟩ := pv_1 I' hx r
    exact ⟨a.trans a'.symm, b.trans b'.symm, p⟩
theorem ps_56 {post : Int32 → Prop} (I : pv_ok W N s ds ho pa) (I' : pv_ok W N s ds' ho' pa') (hp : post 1) : ∀ e x, x + e = N → ∀ n, e < n → wL_same_56 post (nI N) (nI N) fm (nI s) fe fr W ds ho pa tD tH (nI N) fm (nI s) fe fr W ds' ho' pa' tD' tH' n (nI x) := by
  have hN := I.2.1
  intro e
  induction e with
  | zero =>
    intro x hx n hn
    obtain ⟨n', rfl⟩ : ∃ n', n = n' + 1 := ⟨n - 1, by omega⟩
    exact br_t (nI_le (by omega) (by omega)) hp
  | succ e ih =>
    intro x hx n hn
    obtain ⟨n', rfl⟩ : ∃ n', n = n' + 1 := ⟨n - 1, by omega⟩
    have hxN : x < N := by omega
    have z := ih (x + 1) (by omega) n' (by omega)
    obtain ⟨e1, e2, e3⟩ := ps_eq I I' hxN
    refine br_f (nI_ge (by omega) (by omega)) (pv_r I hxN (pv_r I' hxN (br_t rfl ?_)))
    refine xh_o hN hxN (xh_o hN hxN (br_t e1 ?_))
    refine xj_o hN hxN (xj_o hN hxN (br_t e2 ?_))
    exact xm_o hN hxN (xm_o hN hxN (br_t e3 ⟨N + 1, ps_124 hN hxN z N 0 (by omega) (N + 1) (by omega)⟩))
/-- same answers 1 -/
theorem ps_same {post : Int32 → Prop} (I : pv_ok W N s ds ho pa) (I' : pv_ok W N s ds' ho' pa') (hp : post 1) : wpL_same post (nI N, fm, nI s, fe, fr, W, ds, ho, pa, tD, tH, nI N, fm, nI s, fe, fr, W, ds', ho', pa', tD', tH') := by
  unfold wpL_same
  refine px_vc (px_vc (br_t rfl ?_))
  refine px_gs (px_gs (br_t rfl ?_))
  refine px_ec (px_ec (br_t rfl ?_))
  refine px_rc (px_rc (br_t rfl ?_))
  exact ⟨N + 1, ps_56 I I' hp N 0 (by have := I.2.1; omega) (N + 1) (by omega)⟩
end
