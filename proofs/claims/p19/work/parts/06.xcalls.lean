section
variable {N s i j m : Nat} {fm fs fe fr x y w : Int32} {W ds ho pa tD tH : Nat → Int32}
/-- not a vertex -/
def xv_bad (N : Nat) (x : Int32) : Prop := x < 0 ∨ nI N ≤ x
/-- not a weight -/
def xw_bad (w : Int32) : Prop := w < -1000 ∨ 1000 < w
theorem xv_cases (hN : N ≤ 32) (x : Int32) : xv_bad N x ∨ ∃ j, j < N ∧ x = nI j := by
  rcases pk_ix x (n := N) (by omega) with a | a | a
  · exact Or.inl (Or.inl a)
  · exact Or.inl (Or.inr a)
  · exact Or.inr a
theorem xw_cases (w : Int32) : xw_bad w ∨ (¬ w < -1000 ∧ ¬ 1000 < w ∧ w ≤ 1000 ∧ ¬ w = 2147483647 ∧ -1000 ≤ w.toInt ∧ w.toInt ≤ 1000) := by
  by_cases a : w < -1000
  · exact Or.inl (Or.inl a)
  by_cases b : 1000 < w
  · exact Or.inl (Or.inr b)
  have t1 : (-1000 : Int32).toInt = -1000 := by decide
  have t2 : (1000 : Int32).toInt = 1000 := by decide
  have a' := a
  have b' := b
  rw [Int32.lt_iff_toInt_lt, t1] at a'
  rw [Int32.lt_iff_toInt_lt, t2] at b'
  refine Or.inr ⟨a, b, ?_, ?_, by omega, by omega⟩
  · rw [Int32.le_iff_toInt_le, t2]; omega
  · intro e
    rw [e, dq_tM] at b'
    omega
theorem xv_b {post : Int32 → Prop} (a : xv_bad N x) (hp : post 0) : wpX_isValid post (nI N, fm, fs, fe, fr, W, ds, ho, pa, tD, tH) x := by
  by_cases c : x < 0
  · exact br_t c hp
  · exact br_f c (br_t (a.resolve_left c) hp)
theorem xv_o {post : Int32 → Prop} (hN : N ≤ 32) (hi : i < N) (hp : post 1) : wpX_isValid post (nI N, fm, fs, fe, fr, W, ds, ho, pa, tD, tH) (nI i) :=
  br_f (nI_pos (by omega)) (br_f (nI_ge hi (by omega)) hp)
theorem xw_b {post : Int32 → Prop} (a : xw_bad w) (hp : post 0) : wpX_isAllowed post () w := by
  by_cases c : w < -1000
  · exact br_t c hp
  · exact br_f c (br_t (a.resolve_left c) hp)
theorem xw_o {post : Int32 → Prop} (a : ¬ w < -1000) (b : ¬ 1000 < w) (hp : post 1) : wpX_isAllowed post () w := br_f a (br_f b hp)
theorem xn_k (hN : N ≤ 32) (hi : i < N) (hj : j < N) : 32 * i + j < 1024 := by omega
theorem xn_v {k : Nat} (hk : k < 1024) : vp_in (nI k) 1024 := vp_in_nI hk (by decide)
theorem xn_c {k : Nat} (hk : k < 1024) : (nI k).toNatClampNeg = k := nI_clamp (by omega)
theorem xn_v32 (hN : N ≤ 32) (hi : i < N) : vp_in (nI i) 32 := vp_in_nI (by omega) (by decide)
theorem xn_c32 (hN : N ≤ 32) (hi : i < N) : (nI i).toNatClampNeg = i := nI_clamp (by omega)
theorem xa_1 {post : Int32 → St2 → Prop} (a : xv_bad N x) (hp : post 1 (nI N, fm, fs, fe, fr, W, ds, ho, pa, tD, tH)) : wpX_addEdge post (nI N, fm, fs, fe, fr, W, ds, ho, pa, tD, tH) x y w := by
  unfold wpX_addEdge
  exact xv_b a (br_t rfl hp)
theorem xa_2 {post : Int32 → St2 → Prop} (hN : N ≤ 32) (hi : i < N) (a : xv_bad N y) (hp : post 1 (nI N, fm, fs, fe, fr, W, ds, ho, pa, tD, tH)) : wpX_addEdge post (nI N, fm, fs, fe, fr, W, ds, ho, pa, tD, tH) (nI i) y w := by
  unfold wpX_addEdge
  exact xv_o hN hi (br_f yn_10 (xv_b a (br_t rfl hp)))
theorem xa_3 {post : Int32 → St2 → Prop} (hN : N ≤ 32) (hi : i < N) (hj : j < N) (a : xw_bad w) (hp : post 2 (nI N, fm, fs, fe, fr, W, ds, ho, pa, tD, tH)) : wpX_addEdge post (nI N, fm, fs, fe, fr, W, ds, ho, pa, tD, tH) (nI i) (nI j) w := by
  unfold wpX_addEdge
  exact xv_o hN hi (br_f yn_10 (xv_o hN hj (br_f yn_10 (xw_b a (br_t rfl hp)))))
theorem xa_4 {post : Int32 → St2 → Prop} (hN : N ≤ 32) (hi : i < N) (hj : j < N) (a : ¬ w < -1000) (b : ¬ 1000 < w) (c : ¬ W (32 * i + j) = 2147483647) (hp : post 3 (nI N, fm, fs, fe, fr, W, ds, ho, pa, tD, tH)) : wpX_addEdge post (nI N, fm, fs, fe, fr, W, ds, ho, pa, tD, tH) (nI i) (nI j) w := by
  have hk := xn_k hN hi hj
  unfold wpX_addEdge
  exact xv_o hN hi (br_f yn_10 (xv_o hN hj (br_f yn_10 (xw_o a b (br_f yn_10 (xs_slot ⟨xn_v hk, br_f (by rw [xn_c hk]; exact c) hp⟩))))))
theorem xa_5 {post : Int32 → St2 → Prop} (hN : N ≤ 32) (hi : i < N) (hj : j < N) (a : ¬ w < -1000) (b : ¬ 1000 < w) (c : W (32 * i + j) = 2147483647) (f : ¬ fe < fm) (hp : post 5 (nI N, fm, fs, fe, fr, W, ds, ho, pa, tD, tH)) : wpX_addEdge post (nI N, fm, fs, fe, fr, W, ds, ho, pa, tD, tH) (nI i) (nI j) w := by
  have hk := xn_k hN hi hj
  unfold wpX_addEdge
  exact xv_o hN hi (br_f yn_10 (xv_o hN hj (br_f yn_10 (xw_o a b (br_f yn_10 (xs_slot ⟨xn_v hk, br_t (by rw [xn_c hk]; exact c) (br_f f hp)⟩))))))
theorem xa_6 {post : Int32 → St2 → Prop} (hN : N ≤ 32) (hN0 : 1 ≤ N) (hs : s < N) (hi : i < N) (hj : j < N) (a : ¬ w < -1000) (b : ¬ 1000 < w) (c : W (32 * i + j) = 2147483647) (f : fe < fm) (hW : dq_gr (upd W (32 * i + j) w))
    (h0 : ¬ dq_ch (upd W (32 * i + j) w) N s (N - 1) 1024 = 0 → ∀ tD tH : Nat → Int32, post 6 (nI N, fm, nI s, fe, fr, W, ds, ho, pa, tD, tH))
    (h1 : dq_ch (upd W (32 * i + j) w) N s (N - 1) 1024 = 0 → ∀ ds ho pa tD tH : Nat → Int32, xf_ok (upd W (32 * i + j) w) N s ds ho pa → post 0 (nI N, fm, nI s, fe + 1, rq_cnt (dq_seq (upd W (32 * i + j) w) N s (1024 * N)).1 N, upd W (32 * i + j) w, ds, ho, pa, tD, tH)) :
    wpX_addEdge post (nI N, fm, nI s, fe, fr, W, ds, ho, pa, tD, tH) (nI i) (nI j) w := by
  have hk := xn_k hN hi hj
  unfold wpX_addEdge
  refine xv_o hN hi (br_f yn_10 (xv_o hN hj (br_f yn_10 (xw_o a b (br_f yn_10 (xs_slot ⟨xn_v hk, br_t (by rw [xn_c hk]; exact c) (br_t f ?_)⟩))))))
  refine xk_cons hN hN0 hs hk hW fun tD' tH' => ?_
  by_cases q : dq_ch (upd W (32 * i + j) w) N s (N - 1) 1024 = 0
  · rw [if_pos q]
    refine br_f yn_10 ⟨xn_v hk, nm_r (show upd W (nI (32 * i + j)).toNatClampNeg w = upd W (32 * i + j) w by rw [xn_c hk]) (nm_e ?_)⟩
    exact xc_rec hN hN0 hs hW fun ds ho pa tD tH z => h1 q ds ho pa tD tH z
  · rw [if_neg q]
    exact br_t rfl (h0 q tD' tH')
theorem xb_1 {post : Int32 → St2 → Prop} (a : xv_bad N x) (hp : post 1 (nI N, fm, fs, fe, fr, W, ds, ho, pa, tD, tH)) : wpX_setWeight post (nI N, fm, fs, fe, fr, W, ds, ho, pa, tD, tH) x y w := by
  unfold wpX_setWeight
  exact xv_b a (br_t rfl hp)
theorem xb_2 {post : Int32 → St2 → Prop} (hN : N ≤ 32) (hi : i < N) (a : xv_bad N y) (hp : post 1 (nI N, fm, fs, fe, fr, W, ds, ho, pa, tD, tH)) : wpX_setWeight post (nI N, fm, fs, fe, fr, W, ds, ho, pa, tD, tH) (nI i) y w := by
  unfold wpX_setWeight
  exact xv_o hN hi (br_f yn_10 (xv_b a (br_t rfl hp)))
theorem xb_3 {post : Int32 → St2 → Prop} (hN : N ≤ 32) (hi : i < N) (hj : j < N) (a : xw_bad w) (hp : post 2 (nI N, fm, fs, fe, fr, W, ds, ho, pa, tD, tH)) : wpX_setWeight post (nI N, fm, fs, fe, fr, W, ds, ho, pa, tD, tH) (nI i) (nI j) w := by
  unfold wpX_setWeight
  exact xv_o hN hi (br_f yn_10 (xv_o hN hj (br_f yn_10 (xw_b a (br_t rfl hp)))))
theorem xb_4 {post : Int32 → St2 → Prop} (hN : N ≤ 32) (hi : i < N) (hj : j < N) (a : ¬ w < -1000) (b : ¬ 1000 < w) (c : W (32 * i + j) = 2147483647) (hp : post 4 (nI N, fm, fs, fe, fr, W, ds, ho, pa, tD, tH)) : wpX_setWeight post (nI N, fm, fs, fe, fr, W, ds, ho, pa, tD, tH) (nI i) (nI j) w := by
  have hk := xn_k hN hi hj
  unfold wpX_setWeight
  exact xv_o hN hi (br_f yn_10 (xv_o hN hj (br_f yn_10 (xw_o a b (br_f yn_10 (xs_slot ⟨xn_v hk, br_t (by rw [xn_c hk]; exact c) hp⟩))))))
theorem xb_6 {post : Int32 → St2 → Prop} (hN : N ≤ 32) (hN0 : 1 ≤ N) (hs : s < N) (hi : i < N) (hj : j < N) (a : ¬ w < -1000) (b : ¬ 1000 < w) (c : ¬ W (32 * i + j) = 2147483647) (hW : dq_gr (upd W (32 * i + j) w))
    (h0 : ¬ dq_ch (upd W (32 * i + j) w) N s (N - 1) 1024 = 0 → ∀ tD tH : Nat → Int32, post 6 (nI N, fm, nI s, fe, fr, W, ds, ho, pa, tD, tH))
    (h1 : dq_ch (upd W (32 * i + j) w) N s (N - 1) 1024 = 0 → ∀ ds ho pa tD tH : Nat → Int32, xf_ok (upd W (32 * i + j) w) N s ds ho pa → post 0 (nI N, fm, nI s, fe, rq_cnt (dq_seq (upd W (32 * i + j) w) N s (1024 * N)).1 N, upd W (32 * i + j) w, ds, ho, pa, tD, tH)) :
    wpX_setWeight post (nI N, fm, nI s, fe, fr, W, ds, ho, pa, tD, tH) (nI i) (nI j) w := by
  have hk := xn_k hN hi hj
  unfold wpX_setWeight
  refine xv_o hN hi (br_f yn_10 (xv_o hN hj (br_f yn_10 (xw_o a b (br_f yn_10 (xs_slot ⟨xn_v hk, br_f (by rw [xn_c hk]; exact c) ?_⟩))))))
  refine xk_cons hN hN0 hs hk hW fun tD' tH' => ?_
  by_cases q : dq_ch (upd W (32 * i + j) w) N s (N - 1) 1024 = 0
  · rw [if_pos q]
    refine br_f yn_10 ⟨xn_v hk, nm_r (show upd W (nI (32 * i + j)).toNatClampNeg w = upd W (32 * i + j) w by rw [xn_c hk]) ?_⟩
    exact xc_rec hN hN0 hs hW fun ds ho pa tD tH z => h1 q ds ho pa tD tH z
  · rw [if_neg q]
    exact br_t rfl (h0 q tD' tH')
theorem xd_1 {post : Int32 → St2 → Prop} (a : xv_bad N x) (hp : post 1 (nI N, fm, fs, fe, fr, W, ds, ho, pa, tD, tH)) : wpX_removeEdge post (nI N, fm, fs, fe, fr, W, ds, ho, pa, tD, tH) x y := by
  unfold wpX_removeEdge
  exact xv_b a (br_t rfl hp)
theorem xd_2 {post : Int32 → St2 → Prop} (hN : N ≤ 32) (hi : i < N) (a : xv_bad N y) (hp : post 1 (nI N, fm, fs, fe, fr, W, ds, ho, pa, tD, tH)) : wpX_removeEdge post (nI N, fm, fs, fe, fr, W, ds, ho, pa, tD, tH) (nI i) y := by
  unfold wpX_removeEdge
  exact xv_o hN hi (br_f yn_10 (xv_b a (br_t rfl hp)))
theorem xd_4 {post : Int32 → St2 → Prop} (hN : N ≤ 32) (hi : i < N) (hj : j < N) (c : W (32 * i + j) = 2147483647) (hp : post 4 (nI N, fm, fs, fe, fr, W, ds, ho, pa, tD, tH)) : wpX_removeEdge post (nI N, fm, fs, fe, fr, W, ds, ho, pa, tD, tH) (nI i) (nI j) := by
  have hk := xn_k hN hi hj
  unfold wpX_removeEdge
  exact xv_o hN hi (br_f yn_10 (xv_o hN hj (br_f yn_10 (xs_slot ⟨xn_v hk, br_t (by rw [xn_c hk]; exact c) hp⟩))))
theorem xd_6 {post : Int32 → St2 → Prop} (hN : N ≤ 32) (hN0 : 1 ≤ N) (hs : s < N) (hi : i < N) (hj : j < N) (c : ¬ W (32 * i + j) = 2147483647) (hW : dq_gr (upd W (32 * i + j) 2147483647))
    (h1 : ∀ ds ho pa tD tH : Nat → Int32, xf_ok (upd W (32 * i + j) 2147483647) N s ds ho pa → post 0 (nI N, fm, nI s, fe - 1, rq_cnt (dq_seq (upd W (32 * i + j) 2147483647) N s (1024 * N)).1 N, upd W (32 * i + j) 2147483647, ds, ho, pa, tD, tH)) :
    wpX_removeEdge post (nI N, fm, nI s, fe, fr, W, ds, ho, pa, tD, tH) (nI i) (nI j) := by
  have hk := xn_k hN hi hj
  unfold wpX_removeEdge
  refine xv_o hN hi (br_f yn_10 (xv_o hN hj (br_f yn_10 (xs_slot ⟨xn_v hk, br_f (by rw [xn_c hk]; exact c) ⟨xn_v hk, nm_r (show upd W (nI (32 * i + j)).toNatClampNeg 2147483647 = upd W (32 * i + j) 2147483647 by rw [xn_c hk]) (nm_e ?_)⟩⟩))))
  exact xc_rec hN hN0 hs hW fun ds ho pa tD tH z => h1 ds ho pa tD tH z
theorem xe_1 {post : Int32 → St2 → Prop} (a : xv_bad N x) (hp : post 1 (nI N, fm, fs, fe, fr, W, ds, ho, pa, tD, tH)) : wpX_setSource post (nI N, fm, fs, fe, fr, W, ds, ho, pa, tD, tH) x := by
  unfold wpX_setSource
  exact xv_b a (br_t rfl hp)
theorem xe_6 {post : Int32 → St2 → Prop} (hN : N ≤ 32) (hN0 : 1 ≤ N) (hi : i < N) (hW : dq_gr W)
    (h0 : ¬ dq_ch W N i (N - 1) 1024 = 0 → ∀ tD tH : Nat → Int32, post 6 (nI N, fm, fs, fe, fr, W, ds, ho, pa, tD, tH))
    (h1 : dq_ch W N i (N - 1) 1024 = 0 → ∀ ds ho pa tD tH : Nat → Int32, xf_ok W N i ds ho pa → post 0 (nI N, fm, nI i, fe, rq_cnt (dq_seq W N i (1024 * N)).1 N, W, ds, ho, pa, tD, tH)) :
    wpX_setSource post (nI N, fm, fs, fe, fr, W, ds, ho, pa, tD, tH) (nI i) := by
  unfold wpX_setSource
  refine xv_o hN hi (br_f yn_10 ?_)
  refine xs_search hN hN0 hi hW fun tD' tH' _ => ?_
  by_cases q : dq_ch W N i (N - 1) 1024 = 0
  · rw [if_pos q]
    refine br_f yn_10 ?_
    exact xc_rec hN hN0 hi hW fun ds ho pa tD tH z => h1 q ds ho pa tD tH z
  · rw [if_neg q]
    exact br_t rfl (h0 q tD' tH')
theorem xh_b {post : Int32 → Prop} (a : xv_bad N x) (hp : post 2147483647) : wpX_getDist post (nI N, fm, fs, fe, fr, W, ds, ho, pa, tD, tH) x := by
  unfold wpX_getDist
  exact xv_b a (br_t rfl hp)
theorem xh_o {post : Int32 → Prop} (hN : N ≤ 32) (hi : i < N) (hp : post (ds i)) : wpX_getDist post (nI N, fm, fs, fe, fr, W, ds, ho, pa, tD, tH) (nI i) := by
  unfold wpX_getDist
  exact xv_o hN hi (br_f yn_10 ⟨xn_v32 hN hi, by rw [xn_c32 hN hi]; exact hp⟩)
theorem xi_b {post : Int32 → Prop} (a : xv_bad N x) (hp : post 0) : wpX_isReachable post (nI N, fm, fs, fe, fr, W, ds, ho, pa, tD, tH) x := by
  unfold wpX_isReachable
  exact xv_b a (br_t rfl hp)
theorem xi_o {post : Int32 → Prop} (hN : N ≤ 32) (hi : i < N) (h0 : ds i = 2147483647 → post 0) (h1 : ¬ ds i = 2147483647 → post 1) : wpX_isReachable post (nI N, fm, fs, fe, fr, W, ds, ho, pa, tD, tH) (nI i) := by
  unfold wpX_isReachable
  refine xv_o hN hi (br_f yn_10 ⟨xn_v32 hN hi, ?_⟩)
  rw [xn_c32 hN hi]
  exact ⟨h0, h1⟩
theorem xj_b {post : Int32 → Prop} (a : xv_bad N x) (hp : post (-1)) : wpX_getHops post (nI N, fm, fs, fe, fr, W, ds, ho, pa, tD, tH) x := by
  unfold wpX_getHops
  exact xv_b a (br_t rfl hp)
theorem xj_o {post : Int32 → Prop} (hN : N ≤ 32) (hi : i < N) (hp : post (ho i)) : wpX_getHops post (nI N, fm, fs, fe, fr, W, ds, ho, pa, tD, tH) (nI i) := by
  unfold wpX_getHops
  exact xv_o hN hi (br_f yn_10 ⟨xn_v32 hN hi, by rw [xn_c32 hN hi]; exact hp⟩)
theorem xm_b {post : Int32 → Prop} (a : xv_bad N x) (hp : post (-1)) : wpX_getParent post (nI N, fm, fs, fe, fr, W, ds, ho, pa, tD, tH) x := by
  unfold wpX_getParent
  exact xv_b a (br_t rfl hp)
theorem xm_o {post : Int32 → Prop} (hN : N ≤ 32) (hi : i < N) (hp : post (pa i)) : wpX_getParent post (nI N, fm, fs, fe, fr, W, ds, ho, pa, tD, tH) (nI i) := by
  unfold wpX_getParent
  exact xv_o hN hi (br_f yn_10 ⟨xn_v32 hN hi, by rw [xn_c32 hN hi]; exact hp⟩)
theorem xo_1 {post : Int32 → Prop} (a : xv_bad N x) (hp : post 2147483647) : wpX_getWeight post (nI N, fm, fs, fe, fr, W, ds, ho, pa, tD, tH) x y := by
  unfold wpX_getWeight
  exact xv_b a (br_t rfl hp)
theorem xo_2 {post : Int32 → Prop} (hN : N ≤ 32) (hi : i < N) (a : xv_bad N y) (hp : post 2147483647) : wpX_getWeight post (nI N, fm, fs, fe, fr, W, ds, ho, pa, tD, tH) (nI i) y := by
  unfold wpX_getWeight
  exact xv_o hN hi (br_f yn_10 (xv_b a (br_t rfl hp)))
theorem xo_o {post : Int32 → Prop} (hN : N ≤ 32) (hi : i < N) (hj : j < N) (hp : post (W (32 * i + j))) : wpX_getWeight post (nI N, fm, fs, fe, fr, W, ds, ho, pa, tD, tH) (nI i) (nI j) := by
  have hk := xn_k hN hi hj
  unfold wpX_getWeight
  exact xv_o hN hi (br_f yn_10 (xv_o hN hj (br_f yn_10 (xs_slot ⟨xn_v hk, by rw [xn_c hk]; exact hp⟩))))
end
