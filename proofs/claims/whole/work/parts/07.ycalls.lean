/-! the reference's calls, case by case, each over a general post -/
section
variable {N s i j : Nat} {gs gm gc x y w : Int32} {W pr wt d h r : Nat → Int32}
theorem yv_b {post : Int32 → Prop} (a : xv_bad N x) (hp : post 0) : wpY_valid post (nI N, gs, gm, gc, pr, wt, d, h, r) x := by
  by_cases c : x < 0
  · exact br_t c hp
  · exact br_f c (br_t (a.resolve_left c) hp)
theorem yv_o {post : Int32 → Prop} (hN : N ≤ 32) (hi : i < N) (hp : post 1) : wpY_valid post (nI N, gs, gm, gc, pr, wt, d, h, r) (nI i) :=
  br_f (nI_pos (by omega)) (br_f (nI_ge hi (by omega)) hp)
theorem yw_b {A B : Prop} (a : xw_bad w) (hp : A) : (w < -1000 → A) ∧ (¬ w < -1000 → ((w ≤ 1000 → B) ∧ (¬ w ≤ 1000 → A))) := by
  by_cases c : w < -1000
  · exact br_t c hp
  · exact br_f c (br_f (fun z => absurd (a.resolve_left c) (Int32.not_lt.mpr z)) hp)
/-! addEdge -/
theorem ya_1 {post : Int32 → SY → Prop} (a : xv_bad N x) (hp : post 1 (nI N, gs, gm, gc, pr, wt, d, h, r)) : wpY_addEdge post (nI N, gs, gm, gc, pr, wt, d, h, r) x y w := by
  unfold wpY_addEdge
  exact yv_b a (br_t rfl hp)
theorem ya_2 {post : Int32 → SY → Prop} (hN : N ≤ 32) (hi : i < N) (a : xv_bad N y) (hp : post 1 (nI N, gs, gm, gc, pr, wt, d, h, r)) : wpY_addEdge post (nI N, gs, gm, gc, pr, wt, d, h, r) (nI i) y w := by
  unfold wpY_addEdge
  exact yv_o hN hi (br_f yn_10 (yv_b a (br_t rfl hp)))
theorem ya_3 {post : Int32 → SY → Prop} (hN : N ≤ 32) (hi : i < N) (hj : j < N) (a : xw_bad w) (hp : post 2 (nI N, gs, gm, gc, pr, wt, d, h, r)) : wpY_addEdge post (nI N, gs, gm, gc, pr, wt, d, h, r) (nI i) (nI j) w := by
  unfold wpY_addEdge
  exact yv_o hN hi (br_f yn_10 (yv_o hN hj (br_f yn_10 (yw_b a hp))))
theorem ya_4 {post : Int32 → SY → Prop} (hN : N ≤ 32) (hi : i < N) (hj : j < N) (a : ¬ w < -1000) (b : w ≤ 1000) (c : ¬ pr (32 * i + j) = 0) (hp : post 3 (nI N, gs, gm, gc, pr, wt, d, h, r)) : wpY_addEdge post (nI N, gs, gm, gc, pr, wt, d, h, r) (nI i) (nI j) w := by
  have hk := xn_k hN hi hj
  unfold wpY_addEdge
  exact yv_o hN hi (br_f yn_10 (yv_o hN hj (br_f yn_10 (br_f a (br_t b (nm_r xn_slot ⟨xn_v hk, br_f (by rw [xn_c hk]; exact c) hp⟩))))))
theorem ya_5 {post : Int32 → SY → Prop} (hN : N ≤ 32) (hi : i < N) (hj : j < N) (a : ¬ w < -1000) (b : w ≤ 1000) (c : pr (32 * i + j) = 0) (f : gc = gm) (hp : post 5 (nI N, gs, gm, gc, pr, wt, d, h, r)) : wpY_addEdge post (nI N, gs, gm, gc, pr, wt, d, h, r) (nI i) (nI j) w := by
  have hk := xn_k hN hi hj
  unfold wpY_addEdge
  exact yv_o hN hi (br_f yn_10 (yv_o hN hj (br_f yn_10 (br_f a (br_t b (nm_r xn_slot ⟨xn_v hk, br_t (by rw [xn_c hk]; exact c) (br_t f hp)⟩))))))
theorem ya_6 {post : Int32 → SY → Prop} (hN : N ≤ 32) (hN0 : 1 ≤ N) (hs : s < N) (hi : i < N) (hj : j < N) (a : ¬ w < -1000) (b : w ≤ 1000) (c : pr (32 * i + j) = 0) (f : ¬ gc = gm) (hg : yg_ok (upd W (32 * i + j) w) (upd pr (32 * i + j) 1) (upd wt (32 * i + j) w)) (hz : ∀ x, 32 ≤ x → r x = 0 ∧ d x = 0 ∧ h x = 0)
    (h0 : ¬ dq_ch (upd W (32 * i + j) w) N s (N - 1) 1024 = 0 → post 6 (nI N, nI s, gm, gc, upd (upd pr (32 * i + j) 1) (32 * i + j) 0, upd (upd wt (32 * i + j) w) (32 * i + j) 0, (dq_seq (upd W (32 * i + j) w) N s (1024 * N)).2.1, (dq_seq (upd W (32 * i + j) w) N s (1024 * N)).2.2, (dq_seq (upd W (32 * i + j) w) N s (1024 * N)).1))
    (h1 : dq_ch (upd W (32 * i + j) w) N s (N - 1) 1024 = 0 → post 0 (nI N, nI s, gm, gc + 1, upd pr (32 * i + j) 1, upd wt (32 * i + j) w, (dq_seq (upd W (32 * i + j) w) N s (1024 * N)).2.1, (dq_seq (upd W (32 * i + j) w) N s (1024 * N)).2.2, (dq_seq (upd W (32 * i + j) w) N s (1024 * N)).1)) :
    wpY_addEdge post (nI N, nI s, gm, gc, pr, wt, d, h, r) (nI i) (nI j) w := by
  have hk := xn_k hN hi hj
  have ck := xn_c hk
  unfold wpY_addEdge
  refine yv_o hN hi (br_f yn_10 (yv_o hN hj (br_f yn_10 (br_f a (br_t b (nm_r xn_slot ⟨xn_v hk, br_t (by rw [ck]; exact c) (br_f f ⟨xn_v hk, nm_r (show upd pr (nI (32 * i + j)).toNatClampNeg (vp_nar .boolean 1) = upd pr (32 * i + j) 1 by rw [ck, yn_b1]) ⟨xn_v hk, nm_r (show upd wt (nI (32 * i + j)).toNatClampNeg w = upd wt (32 * i + j) w by rw [ck]) ?_⟩⟩)⟩))))))
  refine yc_compute hN hN0 hs hg hz ?_
  by_cases q : dq_ch (upd W (32 * i + j) w) N s (N - 1) 1024 = 0
  · rw [if_pos q]
    exact br_f yn_10 (nm_e (h1 q))
  · rw [if_neg q]
    exact br_t rfl ⟨xn_v hk, nm_r (show upd (upd pr (32 * i + j) 1) (nI (32 * i + j)).toNatClampNeg (vp_nar .boolean 0) = upd (upd pr (32 * i + j) 1) (32 * i + j) 0 by rw [ck, yn_b0]) ⟨xn_v hk, nm_r (show upd (upd wt (32 * i + j) w) (nI (32 * i + j)).toNatClampNeg 0 = upd (upd wt (32 * i + j) w) (32 * i + j) 0 by rw [ck]) (h0 q)⟩⟩
/-! setWeight -/
theorem yb_1 {post : Int32 → SY → Prop} (a : xv_bad N x) (hp : post 1 (nI N, gs, gm, gc, pr, wt, d, h, r)) : wpY_setWeight post (nI N, gs, gm, gc, pr, wt, d, h, r) x y w := by
  unfold wpY_setWeight
  exact yv_b a (br_t rfl hp)
theorem yb_2 {post : Int32 → SY → Prop} (hN : N ≤ 32) (hi : i < N) (a : xv_bad N y) (hp : post 1 (nI N, gs, gm, gc, pr, wt, d, h, r)) : wpY_setWeight post (nI N, gs, gm, gc, pr, wt, d, h, r) (nI i) y w := by
  unfold wpY_setWeight
  exact yv_o hN hi (br_f yn_10 (yv_b a (br_t rfl hp)))
theorem yb_3 {post : Int32 → SY → Prop} (hN : N ≤ 32) (hi : i < N) (hj : j < N) (a : xw_bad w) (hp : post 2 (nI N, gs, gm, gc, pr, wt, d, h, r)) : wpY_setWeight post (nI N, gs, gm, gc, pr, wt, d, h, r) (nI i) (nI j) w := by
  unfold wpY_setWeight
  exact yv_o hN hi (br_f yn_10 (yv_o hN hj (br_f yn_10 (yw_b a hp))))
theorem yb_4 {post : Int32 → SY → Prop} (hN : N ≤ 32) (hi : i < N) (hj : j < N) (a : ¬ w < -1000) (b : w ≤ 1000) (c : pr (32 * i + j) = 0) (hp : post 4 (nI N, gs, gm, gc, pr, wt, d, h, r)) : wpY_setWeight post (nI N, gs, gm, gc, pr, wt, d, h, r) (nI i) (nI j) w := by
  have hk := xn_k hN hi hj
  unfold wpY_setWeight
  exact yv_o hN hi (br_f yn_10 (yv_o hN hj (br_f yn_10 (br_f a (br_t b (nm_r xn_slot ⟨xn_v hk, br_t (by rw [xn_c hk]; exact c) hp⟩))))))
theorem yb_5 {post : Int32 → SY → Prop} (hN : N ≤ 32) (hi : i < N) (hj : j < N) (a : ¬ w < -1000) (b : w ≤ 1000) (c : ¬ pr (32 * i + j) = 0) (f : wt (32 * i + j) = w) (hp : post 0 (nI N, gs, gm, gc, pr, wt, d, h, r)) : wpY_setWeight post (nI N, gs, gm, gc, pr, wt, d, h, r) (nI i) (nI j) w := by
  have hk := xn_k hN hi hj
  have ck := xn_c hk
  unfold wpY_setWeight
  exact yv_o hN hi (br_f yn_10 (yv_o hN hj (br_f yn_10 (br_f a (br_t b (nm_r xn_slot ⟨xn_v hk, br_f (by rw [ck]; exact c) ⟨xn_v hk, nm_r (show wt (nI (32 * i + j)).toNatClampNeg = w by rw [ck]; exact f) (br_t rfl hp)⟩⟩))))))
theorem yb_6 {post : Int32 → SY → Prop} (hN : N ≤ 32) (hN0 : 1 ≤ N) (hs : s < N) (hi : i < N) (hj : j < N) (a : ¬ w < -1000) (b : w ≤ 1000) (c : ¬ pr (32 * i + j) = 0) (f : ¬ wt (32 * i + j) = w) (hg : yg_ok (upd W (32 * i + j) w) pr (upd wt (32 * i + j) w)) (hz : ∀ x, 32 ≤ x → r x = 0 ∧ d x = 0 ∧ h x = 0)
    (h0 : ¬ dq_ch (upd W (32 * i + j) w) N s (N - 1) 1024 = 0 → post 6 (nI N, nI s, gm, gc, pr, upd (upd wt (32 * i + j) w) (32 * i + j) (wt (32 * i + j)), (dq_seq (upd W (32 * i + j) w) N s (1024 * N)).2.1, (dq_seq (upd W (32 * i + j) w) N s (1024 * N)).2.2, (dq_seq (upd W (32 * i + j) w) N s (1024 * N)).1))
    (h1 : dq_ch (upd W (32 * i + j) w) N s (N - 1) 1024 = 0 → post 0 (nI N, nI s, gm, gc, pr, upd wt (32 * i + j) w, (dq_seq (upd W (32 * i + j) w) N s (1024 * N)).2.1, (dq_seq (upd W (32 * i + j) w) N s (1024 * N)).2.2, (dq_seq (upd W (32 * i + j) w) N s (1024 * N)).1)) :
    wpY_setWeight post (nI N, nI s, gm, gc, pr, wt, d, h, r) (nI i) (nI j) w := by
  have hk := xn_k hN hi hj
  have ck := xn_c hk
  unfold wpY_setWeight
  refine yv_o hN hi (br_f yn_10 (yv_o hN hj (br_f yn_10 (br_f a (br_t b (nm_r xn_slot ⟨xn_v hk, br_f (by rw [ck]; exact c) ⟨xn_v hk, nm_r (show wt (nI (32 * i + j)).toNatClampNeg = wt (32 * i + j) by rw [ck]) (br_f f ⟨xn_v hk, nm_r (show upd wt (nI (32 * i + j)).toNatClampNeg w = upd wt (32 * i + j) w by rw [ck]) ?_⟩)⟩⟩))))))
  refine yc_compute hN hN0 hs hg hz ?_
  by_cases q : dq_ch (upd W (32 * i + j) w) N s (N - 1) 1024 = 0
  · rw [if_pos q]
    exact br_f yn_10 (h1 q)
  · rw [if_neg q]
    exact br_t rfl ⟨xn_v hk, nm_r (show upd (upd wt (32 * i + j) w) (nI (32 * i + j)).toNatClampNeg (wt (32 * i + j)) = upd (upd wt (32 * i + j) w) (32 * i + j) (wt (32 * i + j)) by rw [ck]) (h0 q)⟩
/-! removeEdge -/
theorem yd_1 {post : Int32 → SY → Prop} (a : xv_bad N x) (hp : post 1 (nI N, gs, gm, gc, pr, wt, d, h, r)) : wpY_removeEdge post (nI N, gs, gm, gc, pr, wt, d, h, r) x y := by
  unfold wpY_removeEdge
  exact yv_b a (br_t rfl hp)
theorem yd_2 {post : Int32 → SY → Prop} (hN : N ≤ 32) (hi : i < N) (a : xv_bad N y) (hp : post 1 (nI N, gs, gm, gc, pr, wt, d, h, r)) : wpY_removeEdge post (nI N, gs, gm, gc, pr, wt, d, h, r) (nI i) y := by
  unfold wpY_removeEdge
  exact yv_o hN hi (br_f yn_10 (yv_b a (br_t rfl hp)))
theorem yd_4 {post : Int32 → SY → Prop} (hN : N ≤ 32) (hi : i < N) (hj : j < N) (c : pr (32 * i + j) = 0) (hp : post 4 (nI N, gs, gm, gc, pr, wt, d, h, r)) : wpY_removeEdge post (nI N, gs, gm, gc, pr, wt, d, h, r) (nI i) (nI j) := by
  have hk := xn_k hN hi hj
  unfold wpY_removeEdge
  exact yv_o hN hi (br_f yn_10 (yv_o hN hj (br_f yn_10 (nm_r xn_slot ⟨xn_v hk, br_t (by rw [xn_c hk]; exact c) hp⟩))))
theorem yd_6 {post : Int32 → SY → Prop} (hN : N ≤ 32) (hi : i < N) (hj : j < N) (c : ¬ pr (32 * i + j) = 0) (hp : post 0 (nI N, gs, gm, gc - 1, upd pr (32 * i + j) 0, upd wt (32 * i + j) 0, d, h, r)) : wpY_removeEdge post (nI N, gs, gm, gc, pr, wt, d, h, r) (nI i) (nI j) := by
  have hk := xn_k hN hi hj
  have ck := xn_c hk
  unfold wpY_removeEdge
  exact yv_o hN hi (br_f yn_10 (yv_o hN hj (br_f yn_10 (nm_r xn_slot ⟨xn_v hk, br_f (by rw [ck]; exact c) ⟨xn_v hk, nm_r (show upd pr (nI (32 * i + j)).toNatClampNeg (vp_nar .boolean 0) = upd pr (32 * i + j) 0 by rw [ck, yn_b0]) ⟨xn_v hk, nm_r (show upd wt (nI (32 * i + j)).toNatClampNeg 0 = upd wt (32 * i + j) 0 by rw [ck]) (nm_e hp)⟩⟩⟩))))
/-! setSource -/
theorem ye_1 {post : Int32 → SY → Prop} (a : xv_bad N x) (hp : post 1 (nI N, gs, gm, gc, pr, wt, d, h, r)) : wpY_setSource post (nI N, gs, gm, gc, pr, wt, d, h, r) x := by
  unfold wpY_setSource
  exact yv_b a (br_t rfl hp)
theorem ye_6 {post : Int32 → SY → Prop} (hN : N ≤ 32) (hN0 : 1 ≤ N) (hi : i < N) (hg : yg_ok W pr wt) (hz : ∀ x, 32 ≤ x → r x = 0 ∧ d x = 0 ∧ h x = 0)
    (h0 : ¬ dq_ch W N i (N - 1) 1024 = 0 → post 6 (nI N, gs, gm, gc, pr, wt, (dq_seq W N i (1024 * N)).2.1, (dq_seq W N i (1024 * N)).2.2, (dq_seq W N i (1024 * N)).1))
    (h1 : dq_ch W N i (N - 1) 1024 = 0 → post 0 (nI N, nI i, gm, gc, pr, wt, (dq_seq W N i (1024 * N)).2.1, (dq_seq W N i (1024 * N)).2.2, (dq_seq W N i (1024 * N)).1)) :
    wpY_setSource post (nI N, gs, gm, gc, pr, wt, d, h, r) (nI i) := by
  unfold wpY_setSource
  refine yv_o hN hi (br_f yn_10 ?_)
  refine yc_compute hN hN0 hi hg hz ?_
  by_cases q : dq_ch W N i (N - 1) 1024 = 0
  · rw [if_pos q]
    exact br_f yn_10 (h1 q)
  · rw [if_neg q]
    exact br_t rfl (h0 q)
/-! canSet -/
theorem yf_1 {post : Int32 → SY → Prop} (a : xv_bad N x) (hp : post 0 (nI N, gs, gm, gc, pr, wt, d, h, r)) : wpY_canSet post (nI N, gs, gm, gc, pr, wt, d, h, r) x y w := by
  unfold wpY_canSet
  exact yv_b a (br_t rfl hp)
theorem yf_2 {post : Int32 → SY → Prop} (hN : N ≤ 32) (hi : i < N) (a : xv_bad N y) (hp : post 0 (nI N, gs, gm, gc, pr, wt, d, h, r)) : wpY_canSet post (nI N, gs, gm, gc, pr, wt, d, h, r) (nI i) y w := by
  unfold wpY_canSet
  exact yv_o hN hi (br_f yn_10 (yv_b a (br_t rfl hp)))
theorem yf_3 {post : Int32 → SY → Prop} (hN : N ≤ 32) (hi : i < N) (hj : j < N) (a : xw_bad w) (hp : post 0 (nI N, gs, gm, gc, pr, wt, d, h, r)) : wpY_canSet post (nI N, gs, gm, gc, pr, wt, d, h, r) (nI i) (nI j) w := by
  unfold wpY_canSet
  exact yv_o hN hi (br_f yn_10 (yv_o hN hj (br_f yn_10 (yw_b a hp))))
theorem yf_5 {post : Int32 → SY → Prop} (hN : N ≤ 32) (hi : i < N) (hj : j < N) (a : ¬ w < -1000) (b : w ≤ 1000) (c : pr (32 * i + j) = 0) (f : ¬ gc < gm) (hp : post 0 (nI N, gs, gm, gc, pr, wt, d, h, r)) : wpY_canSet post (nI N, gs, gm, gc, pr, wt, d, h, r) (nI i) (nI j) w := by
  have hk := xn_k hN hi hj
  have ck := xn_c hk
  unfold wpY_canSet
  exact yv_o hN hi (br_f yn_10 (yv_o hN hj (br_f yn_10 (br_f a (br_t b (nm_r xn_slot ⟨xn_v hk, nm_r (show pr (nI (32 * i + j)).toNatClampNeg = 0 by rw [ck]; exact c) (br_t rfl (br_f f hp))⟩))))))
theorem yf_69 {post : Int32 → SY → Prop} {k : Nat} {p : Int32} (hN : N ≤ 32) (hN0 : 1 ≤ N) (hs : s < N) (hk : k < 1024) (ep : pr k = p) (hb : p = 0 ∨ p = 1) (hg : yg_ok (upd W k w) (upd pr k 1) (upd wt k w)) (hz : ∀ x, 32 ≤ x → r x = 0 ∧ d x = 0 ∧ h x = 0)
    (hp : post (if dq_ch (upd W k w) N s (N - 1) 1024 = 0 then 1 else 0) (nI N, nI s, gm, gc, pr, wt, (dq_seq (upd W k w) N s (1024 * N)).2.1, (dq_seq (upd W k w) N s (1024 * N)).2.2, (dq_seq (upd W k w) N s (1024 * N)).1)) : wY_canSet_69 post w (nI k) p (nI N) (nI s) gm gc pr wt d h r := by
  have ck := xn_c hk
  have e1 : upd (upd pr k 1) (nI k).toNatClampNeg (vp_nar .boolean p) = pr := by
    have ev : vp_nar .boolean p = p := by
      rcases hb with z | z
      · rw [z, yn_b0]
      · rw [z, yn_b1]
    rw [ck, ev]
    funext x
    by_cases c : x = k
    · rw [c, pk_us, ep]
    · rw [pk_un c, pk_un c]
  have e2 : upd (upd wt k w) (nI k).toNatClampNeg (wt k) = wt := by
    rw [ck]
    funext x
    by_cases c : x = k
    · rw [c, pk_us]
    · rw [pk_un c, pk_un c]
  unfold wY_canSet_69
  refine ⟨xn_v hk, nm_r (show wt (nI k).toNatClampNeg = wt k by rw [ck]) ⟨xn_v hk, nm_r (show upd pr (nI k).toNatClampNeg (vp_nar .boolean 1) = upd pr k 1 by rw [ck, yn_b1]) ⟨xn_v hk, nm_r (show upd wt (nI k).toNatClampNeg w = upd wt k w by rw [ck]) ?_⟩⟩⟩
  refine yc_compute hN hN0 hs hg hz ?_
  refine ⟨xn_v hk, nm_r e1 ⟨xn_v hk, nm_r e2 ⟨yn_nb ?_, hp⟩⟩⟩
  by_cases c : dq_ch (upd W k w) N s (N - 1) 1024 = 0
  · rw [if_pos c]; exact Or.inr rfl
  · rw [if_neg c]; exact Or.inl rfl
theorem yf_6 {post : Int32 → SY → Prop} (hN : N ≤ 32) (hN0 : 1 ≤ N) (hs : s < N) (hi : i < N) (hj : j < N) (a : ¬ w < -1000) (b : w ≤ 1000) (c : pr (32 * i + j) = 1 ∨ (pr (32 * i + j) = 0 ∧ gc < gm)) (hg : yg_ok (upd W (32 * i + j) w) (upd pr (32 * i + j) 1) (upd wt (32 * i + j) w)) (hz : ∀ x, 32 ≤ x → r x = 0 ∧ d x = 0 ∧ h x = 0)
    (hp : post (if dq_ch (upd W (32 * i + j) w) N s (N - 1) 1024 = 0 then 1 else 0) (nI N, nI s, gm, gc, pr, wt, (dq_seq (upd W (32 * i + j) w) N s (1024 * N)).2.1, (dq_seq (upd W (32 * i + j) w) N s (1024 * N)).2.2, (dq_seq (upd W (32 * i + j) w) N s (1024 * N)).1)) :
    wpY_canSet post (nI N, nI s, gm, gc, pr, wt, d, h, r) (nI i) (nI j) w := by
  have hk := xn_k hN hi hj
  have ck := xn_c hk
  unfold wpY_canSet
  refine yv_o hN hi (br_f yn_10 (yv_o hN hj (br_f yn_10 (br_f a (br_t b (nm_r xn_slot ⟨xn_v hk, nm_r (show pr (nI (32 * i + j)).toNatClampNeg = pr (32 * i + j) by rw [ck]) ?_⟩))))))
  rcases c with c | ⟨c, f⟩
  · exact br_f (by rw [c]; exact yn_10) (yf_69 hN hN0 hs hk rfl (Or.inr c) hg hz hp)
  · exact br_t c (br_t f (yf_69 hN hN0 hs hk rfl (Or.inl c) hg hz hp))
/-! the calls that ask -/
theorem yh_b {post : Int32 → SY → Prop} (a : xv_bad N x) (hp : post 2147483647 (nI N, gs, gm, gc, pr, wt, d, h, r)) : wpY_getDist post (nI N, gs, gm, gc, pr, wt, d, h, r) x := by
  unfold wpY_getDist
  exact yv_b a (br_t rfl hp)
theorem yh_o {post : Int32 → SY → Prop} (hN : N ≤ 32) (hN0 : 1 ≤ N) (hs : s < N) (hi : i < N) (hg : yg_ok W pr wt) (hz : ∀ x, 32 ≤ x → r x = 0 ∧ d x = 0 ∧ h x = 0)
    (h0 : (dq_seq W N s (1024 * N)).1 i = 0 → post 2147483647 (nI N, nI s, gm, gc, pr, wt, (dq_seq W N s (1024 * N)).2.1, (dq_seq W N s (1024 * N)).2.2, (dq_seq W N s (1024 * N)).1))
    (h1 : ¬ (dq_seq W N s (1024 * N)).1 i = 0 → post ((dq_seq W N s (1024 * N)).2.1 i) (nI N, nI s, gm, gc, pr, wt, (dq_seq W N s (1024 * N)).2.1, (dq_seq W N s (1024 * N)).2.2, (dq_seq W N s (1024 * N)).1)) :
    wpY_getDist post (nI N, nI s, gm, gc, pr, wt, d, h, r) (nI i) := by
  unfold wpY_getDist
  refine yv_o hN hi (br_f yn_10 ?_)
  refine yc_compute hN hN0 hs hg hz ⟨xn_v32 hN hi, ?_⟩
  rw [xn_c32 hN hi]
  exact ⟨h0, fun z => ⟨xn_v32 hN hi, h1 z⟩⟩
theorem yi_b {post : Int32 → SY → Prop} (a : xv_bad N x) (hp : post 0 (nI N, gs, gm, gc, pr, wt, d, h, r)) : wpY_isReachable post (nI N, gs, gm, gc, pr, wt, d, h, r) x := by
  unfold wpY_isReachable
  exact yv_b a (br_t rfl hp)
theorem yi_o {post : Int32 → SY → Prop} (hN : N ≤ 32) (hN0 : 1 ≤ N) (hs : s < N) (hi : i < N) (hg : yg_ok W pr wt) (hz : ∀ x, 32 ≤ x → r x = 0 ∧ d x = 0 ∧ h x = 0)
    (hb : (dq_seq W N s (1024 * N)).1 i = 0 ∨ (dq_seq W N s (1024 * N)).1 i = 1)
    (hp : post ((dq_seq W N s (1024 * N)).1 i) (nI N, nI s, gm, gc, pr, wt, (dq_seq W N s (1024 * N)).2.1, (dq_seq W N s (1024 * N)).2.2, (dq_seq W N s (1024 * N)).1)) :
    wpY_isReachable post (nI N, nI s, gm, gc, pr, wt, d, h, r) (nI i) := by
  unfold wpY_isReachable
  refine yv_o hN hi (br_f yn_10 ?_)
  refine yc_compute hN hN0 hs hg hz ⟨xn_v32 hN hi, ?_⟩
  rw [xn_c32 hN hi]
  exact ⟨yn_nb hb, hp⟩
theorem yj_b {post : Int32 → SY → Prop} (a : xv_bad N x) (hp : post (-1) (nI N, gs, gm, gc, pr, wt, d, h, r)) : wpY_getHops post (nI N, gs, gm, gc, pr, wt, d, h, r) x := by
  unfold wpY_getHops
  exact yv_b a (br_t rfl hp)
theorem yj_o {post : Int32 → SY → Prop} (hN : N ≤ 32) (hN0 : 1 ≤ N) (hs : s < N) (hi : i < N) (hg : yg_ok W pr wt) (hz : ∀ x, 32 ≤ x → r x = 0 ∧ d x = 0 ∧ h x = 0)
    (h0 : (dq_seq W N s (1024 * N)).1 i = 0 → post (-1) (nI N, nI s, gm, gc, pr, wt, (dq_seq W N s (1024 * N)).2.1, (dq_seq W N s (1024 * N)).2.2, (dq_seq W N s (1024 * N)).1))
    (h1 : ¬ (dq_seq W N s (1024 * N)).1 i = 0 → post ((dq_seq W N s (1024 * N)).2.2 i) (nI N, nI s, gm, gc, pr, wt, (dq_seq W N s (1024 * N)).2.1, (dq_seq W N s (1024 * N)).2.2, (dq_seq W N s (1024 * N)).1)) :
    wpY_getHops post (nI N, nI s, gm, gc, pr, wt, d, h, r) (nI i) := by
  unfold wpY_getHops
  refine yv_o hN hi (br_f yn_10 ?_)
  refine yc_compute hN hN0 hs hg hz ⟨xn_v32 hN hi, ?_⟩
  rw [xn_c32 hN hi]
  exact ⟨h0, fun z => ⟨xn_v32 hN hi, h1 z⟩⟩
theorem yk_b {post : Int32 → SY → Prop} (a : xv_bad N x) (hp : post (-1) (nI N, gs, gm, gc, pr, wt, d, h, r)) : wpY_getParent post (nI N, gs, gm, gc, pr, wt, d, h, r) x := by
  unfold wpY_getParent
  exact yv_b a (br_t rfl hp)
theorem yk_o {post : Int32 → SY → Prop} (hN : N ≤ 32) (hN0 : 1 ≤ N) (hs : s < N) (hi : i < N) (hg : yg_ok W pr wt) (hz : ∀ x, 32 ≤ x → r x = 0 ∧ d x = 0 ∧ h x = 0)
    (hp : post (rq_par W N s (dq_seq W N s (1024 * N)) i) (nI N, nI s, gm, gc, pr, wt, (dq_seq W N s (1024 * N)).2.1, (dq_seq W N s (1024 * N)).2.2, (dq_seq W N s (1024 * N)).1)) :
    wpY_getParent post (nI N, nI s, gm, gc, pr, wt, d, h, r) (nI i) := by
  unfold wpY_getParent
  refine yv_o hN hi (br_f yn_10 ?_)
  refine yc_compute hN hN0 hs hg hz ⟨xn_v32 hN hi, ?_⟩
  unfold rq_par at hp
  by_cases c0 : (dq_seq W N s (1024 * N)).1 i = 0
  · have z : (if i = s then (-1 : Int32) else if (dq_seq W N s (1024 * N)).1 i = 0 then -1 else rq_scan W (dq_seq W N s (1024 * N)) i N 0) = -1 := by
      by_cases c1 : i = s
      · rw [if_pos c1]
      · rw [if_neg c1, if_pos c0]
    rw [z] at hp
    exact br_t (by rw [xn_c32 hN hi]; exact c0) hp
  · refine br_f (by rw [xn_c32 hN hi]; exact c0) ?_
    by_cases c1 : i = s
    · rw [if_pos c1] at hp
      exact br_t (by rw [c1]) hp
    · rw [if_neg c1, if_neg c0] at hp
      exact br_f (fun z => c1 ((nI_eq (by omega) (by omega)).mp z)) ⟨N + 1, yp_36 hN hi hg N 0 (by omega) (N + 1) (by omega) hp⟩
theorem yl_1 {post : Int32 → Prop} (a : xv_bad N x) (hp : post 2147483647) : wpY_getWeight post (nI N, gs, gm, gc, pr, wt, d, h, r) x y := by
  unfold wpY_getWeight
  exact yv_b a (br_t rfl hp)
theorem yl_2 {post : Int32 → Prop} (hN : N ≤ 32) (hi : i < N) (a : xv_bad N y) (hp : post 2147483647) : wpY_getWeight post (nI N, gs, gm, gc, pr, wt, d, h, r) (nI i) y := by
  unfold wpY_getWeight
  exact yv_o hN hi (br_f yn_10 (yv_b a (br_t rfl hp)))
theorem yl_o {post : Int32 → Prop} (hN : N ≤ 32) (hi : i < N) (hj : j < N) (h0 : pr (32 * i + j) = 0 → post 2147483647) (h1 : ¬ pr (32 * i + j) = 0 → post (wt (32 * i + j))) : wpY_getWeight post (nI N, gs, gm, gc, pr, wt, d, h, r) (nI i) (nI j) := by
  have hk := xn_k hN hi hj
  have ck := xn_c hk
  unfold wpY_getWeight
  refine yv_o hN hi (br_f yn_10 (yv_o hN hj (br_f yn_10 (nm_r xn_slot ⟨xn_v hk, ?_⟩))))
  rw [ck]
  exact ⟨h0, fun z => ⟨xn_v hk, h1 z⟩⟩
theorem ym_1 {post : Int32 → Prop} (a : xv_bad N x) (hp : post 0) : wpY_hasEdge post (nI N, gs, gm, gc, pr, wt, d, h, r) x y := by
  unfold wpY_hasEdge
  exact yv_b a (br_t rfl hp)
theorem ym_2 {post : Int32 → Prop} (hN : N ≤ 32) (hi : i < N) (a : xv_bad N y) (hp : post 0) : wpY_hasEdge post (nI N, gs, gm, gc, pr, wt, d, h, r) (nI i) y := by
  unfold wpY_hasEdge
  exact yv_o hN hi (br_f yn_10 (yv_b a (br_t rfl hp)))
theorem ym_o {post : Int32 → Prop} (hN : N ≤ 32) (hi : i < N) (hj : j < N) (hb : pr (32 * i + j) = 0 ∨ pr (32 * i + j) = 1) (hp : post (pr (32 * i + j))) : wpY_hasEdge post (nI N, gs, gm, gc, pr, wt, d, h, r) (nI i) (nI j) := by
  have hk := xn_k hN hi hj
  have ck := xn_c hk
  unfold wpY_hasEdge
  refine yv_o hN hi (br_f yn_10 (yv_o hN hj (br_f yn_10 ?_)))
  rw [xn_slot, ck]
  exact ⟨xn_v hk, yn_nb hb, hp⟩
theorem yo_o {post : Int32 → SY → Prop} (hN : N ≤ 32) (hN0 : 1 ≤ N) (hs : s < N) (hg : yg_ok W pr wt) (hz : ∀ x, 32 ≤ x → r x = 0 ∧ d x = 0 ∧ h x = 0)
    (hp : post (rq_cnt (dq_seq W N s (1024 * N)).1 N) (nI N, nI s, gm, gc, pr, wt, (dq_seq W N s (1024 * N)).2.1, (dq_seq W N s (1024 * N)).2.2, (dq_seq W N s (1024 * N)).1)) :
    wpY_reachableCount post (nI N, nI s, gm, gc, pr, wt, d, h, r) := by
  unfold wpY_reachableCount
  refine yc_compute hN hN0 hs hg hz ?_
  exact ⟨N + 1, yr_9 hN hp N 0 (by omega) (N + 1) (by omega)⟩
end
