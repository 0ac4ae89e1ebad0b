/-! the law's apply: one outcome for every object of a graph and source -/
section
variable {N s i j k u v : Nat} {fm fs fe fr w : Int32} {W ds ho pa tD tH : Nat → Int32}
theorem po_gr (hW : dq_gr W) (w5 : -1000 ≤ w.toInt) (w6 : w.toInt ≤ 1000) : dq_gr (upd W k w) := by
  intro x hx
  by_cases c : x = k
  · rw [c, pk_us]
    exact Or.inr ⟨w5, w6⟩
  · rw [pk_un c]
    exact hW x hx
theorem po_grM (hW : dq_gr W) : dq_gr (upd W k 2147483647) := by
  intro x hx
  by_cases c : x = k
  · rw [c, pk_us]
    exact Or.inl rfl
  · rw [pk_un c]
    exact hW x hx
theorem po_sub {x : Nat} (z : ¬ upd W k 2147483647 x = 2147483647) : upd W k 2147483647 x = W x := by
  by_cases c : x = k
  · rw [c] at z
    exact absurd pk_us z
  · exact pk_un c
/-- a call has one answer r and one new graph and source, whatever the object's arrays are -/
def po_out (M : (Int32 → St2 → Prop) → St2 → Prop) (N s : Nat) (fm fe : Int32) (W : Nat → Int32) : Prop :=
  ∃ (r : Int32) (s' : Nat) (fe' : Int32) (W' : Nat → Int32), s' < N ∧ dq_gr W' ∧ dq_ok W' N s' ∧ (r = 6 → s' = s ∧ fe' = fe ∧ W' = W) ∧ ∀ (post : Int32 → St2 → Prop) (ds ho pa tD tH : Nat → Int32), xf_ok W N s ds ho pa → (∀ ds ho pa tD tH : Nat → Int32, xf_ok W' N s' ds ho pa → post r (nI N, fm, nI s', fe', rq_cnt (dq_seq W' N s' (1024 * N)).1 N, W', ds, ho, pa, tD, tH)) → M post (nI N, fm, nI s, fe, rq_cnt (dq_seq W N s (1024 * N)).1 N, W, ds, ho, pa, tD, tH)
theorem po_add (hN : N ≤ 32) (hs : s < N) (hW : dq_gr W) (hok : dq_ok W N s) (hi : i < N) (hj : j < N) (w1 : ¬ w < -1000) (w2 : ¬ 1000 < w) (w5 : -1000 ≤ w.toInt) (w6 : w.toInt ≤ 1000) : po_out (fun post S => wpX_addEdge post S (nI i) (nI j) w) N s fm fe W := by
  by_cases c : W (32 * i + j) = 2147483647
  · by_cases f : fe < fm
    · have hW' := po_gr (k := 32 * i + j) hW w5 w6
      by_cases q : dq_ch (upd W (32 * i + j) w) N s (N - 1) 1024 = 0
      · exact ⟨0, s, fe + 1, upd W (32 * i + j) w, hs, hW', dq_qok hW' hN hs q, fun z => absurd z (by decide), fun post ds ho pa tD tH hf hp => xa_6 hN (by omega) hs hi hj w1 w2 c f hW' (fun z => absurd q z) (fun _ ds ho pa tD tH z => hp ds ho pa tD tH z)⟩
      · exact ⟨6, s, fe, W, hs, hW, hok, fun _ => ⟨rfl, rfl, rfl⟩, fun post ds ho pa tD tH hf hp => xa_6 hN (by omega) hs hi hj w1 w2 c f hW' (fun _ tD tH => hp ds ho pa tD tH hf) (fun z => absurd z q)⟩
    · exact ⟨5, s, fe, W, hs, hW, hok, fun _ => ⟨rfl, rfl, rfl⟩, fun post ds ho pa tD tH hf hp => xa_5 hN hi hj w1 w2 c f (hp ds ho pa tD tH hf)⟩
  · exact ⟨3, s, fe, W, hs, hW, hok, fun _ => ⟨rfl, rfl, rfl⟩, fun post ds ho pa tD tH hf hp => xa_4 hN hi hj w1 w2 c (hp ds ho pa tD tH hf)⟩
theorem po_setw (hN : N ≤ 32) (hs : s < N) (hW : dq_gr W) (hok : dq_ok W N s) (hi : i < N) (hj : j < N) (w1 : ¬ w < -1000) (w2 : ¬ 1000 < w) (w5 : -1000 ≤ w.toInt) (w6 : w.toInt ≤ 1000) : po_out (fun post S => wpX_setWeight post S (nI i) (nI j) w) N s fm fe W := by
  by_cases c : W (32 * i + j) = 2147483647
  · exact ⟨4, s, fe, W, hs, hW, hok, fun _ => ⟨rfl, rfl, rfl⟩, fun post ds ho pa tD tH hf hp => xb_4 hN hi hj w1 w2 c (hp ds ho pa tD tH hf)⟩
  · have hW' := po_gr (k := 32 * i + j) hW w5 w6
    by_cases q : dq_ch (upd W (32 * i + j) w) N s (N - 1) 1024 = 0
    · exact ⟨0, s, fe, upd W (32 * i + j) w, hs, hW', dq_qok hW' hN hs q, fun z => absurd z (by decide), fun post ds ho pa tD tH hf hp => xb_6 hN (by omega) hs hi hj w1 w2 c hW' (fun z => absurd q z) (fun _ ds ho pa tD tH z => hp ds ho pa tD tH z)⟩
    · exact ⟨6, s, fe, W, hs, hW, hok, fun _ => ⟨rfl, rfl, rfl⟩, fun post ds ho pa tD tH hf hp => xb_6 hN (by omega) hs hi hj w1 w2 c hW' (fun _ tD tH => hp ds ho pa tD tH hf) (fun z => absurd z q)⟩
theorem po_rem (hN : N ≤ 32) (hs : s < N) (hW : dq_gr W) (hok : dq_ok W N s) (hi : i < N) (hj : j < N) : po_out (fun post S => wpX_removeEdge post S (nI i) (nI j)) N s fm fe W := by
  by_cases c : W (32 * i + j) = 2147483647
  · exact ⟨4, s, fe, W, hs, hW, hok, fun _ => ⟨rfl, rfl, rfl⟩, fun post ds ho pa tD tH hf hp => xd_4 hN hi hj c (hp ds ho pa tD tH hf)⟩
  · exact ⟨0, s, fe - 1, upd W (32 * i + j) 2147483647, hs, po_grM hW, dq_okS hN (fun _ _ z => po_sub z) hok, fun z => absurd z (by decide), fun post ds ho pa tD tH hf hp => xd_6 hN (by omega) hs hi hj c (po_grM hW) (fun ds ho pa tD tH z => hp ds ho pa tD tH z)⟩
theorem po_src (hN : N ≤ 32) (hs : s < N) (hW : dq_gr W) (hok : dq_ok W N s) (hi : i < N) : po_out (fun post S => wpX_setSource post S (nI i)) N s fm fe W := by
  by_cases q : dq_ch W N i (N - 1) 1024 = 0
  · exact ⟨0, i, fe, W, hi, hW, dq_qok hW hN hi q, fun z => absurd z (by decide), fun post ds ho pa tD tH hf hp => xe_6 hN (by omega) hi hW (fun z => absurd q z) (fun _ ds ho pa tD tH z => hp ds ho pa tD tH z)⟩
  · exact ⟨6, s, fe, W, hs, hW, hok, fun _ => ⟨rfl, rfl, rfl⟩, fun post ds ho pa tD tH hf hp => xe_6 hN (by omega) hi hW (fun _ tD tH => hp ds ho pa tD tH hf) (fun z => absurd z q)⟩
/-! isolate -/
def po_fe (W : Nat → Int32) (k : Nat) (fe : Int32) : Int32 := if W k = 2147483647 then fe else fe - 1
theorem po_drop {post : St2 → Prop} (hk : k < 1024) (hp : post (nI N, fm, fs, po_fe W k fe, fr, upd W k 2147483647, ds, ho, pa, tD, tH)) : wpX_dropSlot post (nI N, fm, fs, fe, fr, W, ds, ho, pa, tD, tH) (nI k) := by
  have ck := xn_c hk
  unfold po_fe at hp
  by_cases c : W k = 2147483647
  · have e : upd W k 2147483647 = W := by
      funext x
      by_cases y : x = k
      · rw [y, pk_us, c]
      · rw [pk_un y]
    rw [if_pos c, e] at hp
    exact ⟨xn_v hk, br_t (by rw [ck]; exact c) hp⟩
  · rw [if_neg c] at hp
    exact ⟨xn_v hk, br_f (by rw [ck]; exact c) ⟨xn_v hk, nm_r (show upd W (nI k).toNatClampNeg 2147483647 = upd W k 2147483647 by rw [ck]) (nm_e hp)⟩⟩
theorem po_17 (hN : N ≤ 32) (hs : s < N) (hv : v < N) : ∀ e x, x + e = N → ∀ (W : Nat → Int32) (fe : Int32), dq_gr W → ∃ (W' : Nat → Int32) (fe' : Int32), dq_gr W' ∧ (∀ i, i < 1024 → ¬ W' i = 2147483647 → W' i = W i) ∧ ∀ (post : Int32 → St2 → Prop) (fm fr x2 : Int32) (ds ho pa tD tH : Nat → Int32) (n : Nat), e < n → (∀ ds ho pa tD tH : Nat → Int32, xf_ok W' N s ds ho pa → post (x2 - fe') (nI N, fm, nI s, fe', rq_cnt (dq_seq W' N s (1024 * N)).1 N, W', ds, ho, pa, tD, tH)) → wX_isolate_17 post (nI v) x2 n (nI x) (nI N) fm (nI s) fe fr W ds ho pa tD tH := by
  intro e
  induction e with
  | zero =>
    intro x hx W fe hW
    refine ⟨W, fe, hW, fun _ _ _ => rfl, ?_⟩
    intro post fm fr x2 ds ho pa tD tH n hn hp
    obtain ⟨n', rfl⟩ : ∃ n', n = n' + 1 := ⟨n - 1, by omega⟩
    refine br_t (nI_le (by omega) (by omega)) ?_
    exact xc_rec hN (by omega) hs hW fun ds ho pa tD tH z => hp ds ho pa tD tH z
  | succ e ih =>
    intro x hx W fe hW
    have hk1 : 32 * v + x < 1024 := by omega
    have hk2 : 32 * x + v < 1024 := by omega
    obtain ⟨W', fe', g, sub, hX⟩ := ih (x + 1) (by omega) (upd (upd W (32 * v + x) 2147483647) (32 * x + v) 2147483647) (po_fe (upd W (32 * v + x) 2147483647) (32 * x + v) (po_fe W (32 * v + x) fe)) (po_grM (po_grM hW))
    refine ⟨W', fe', g, ?_, ?_⟩
    · intro y hy z
      have z1 := sub y hy z
      have z2 := po_sub (W := upd W (32 * v + x) 2147483647) (k := 32 * x + v) (x := y) (by rw [← z1]; exact z)
      have z3 := po_sub (W := W) (k := 32 * v + x) (x := y) (by rw [← z2, ← z1]; exact z)
      rw [z1, z2, z3]
    · intro post fm fr x2 ds ho pa tD tH n hn hp
      obtain ⟨n', rfl⟩ : ∃ n', n = n' + 1 := ⟨n - 1, by omega⟩
      refine br_f (nI_ge (by omega) (by omega)) (xs_slot (po_drop hk1 ?_))
      refine xs_slot (po_drop hk2 ?_)
      exact nm_r (nI_1 x) (hX post fm fr x2 ds ho pa tD tH n' (by omega) hp)
theorem po_iso (hN : N ≤ 32) (hs : s < N) (hW : dq_gr W) (hok : dq_ok W N s) (hv : v < N) : ∃ (r : Int32) (fe' : Int32) (W' : Nat → Int32), dq_gr W' ∧ dq_ok W' N s ∧ ∀ (post : Int32 → St2 → Prop) (fm fr : Int32) (ds ho pa tD tH : Nat → Int32), (∀ ds ho pa tD tH : Nat → Int32, xf_ok W' N s ds ho pa → post r (nI N, fm, nI s, fe', rq_cnt (dq_seq W' N s (1024 * N)).1 N, W', ds, ho, pa, tD, tH)) → wpX_isolate post (nI N, fm, nI s, fe, fr, W, ds, ho, pa, tD, tH) (nI v) := by
  obtain ⟨W', fe', g, sub, hX⟩ := po_17 hN hs hv N 0 (by omega) W fe hW
  refine ⟨fe - fe', fe', W', g, dq_okS hN sub hok, ?_⟩
  intro post fm fr ds ho pa tD tH hp
  unfold wpX_isolate
  refine xv_o hN hv (br_f yn_10 ⟨N + 1, ?_⟩)
  exact hX post fm fr fe ds ho pa tD tH (N + 1) (by omega) hp
/-! apply -/
def po_app (op : Int32) (u v : Nat) (w : Int32) (N s : Nat) (fm fe : Int32) (W : Nat → Int32) : Prop :=
  ∃ (r : Int32) (s' : Nat) (fe' : Int32) (W' : Nat → Int32), s' < N ∧ dq_gr W' ∧ dq_ok W' N s' ∧ (r = 0 ∨ (r = 1 ∧ s' = s ∧ fe' = fe ∧ W' = W)) ∧ ∀ (post : Int32 → St2 → Prop) (ds ho pa tD tH : Nat → Int32), xf_ok W N s ds ho pa → (∀ ds ho pa tD tH : Nat → Int32, xf_ok W' N s' ds ho pa → post r (nI N, fm, nI s', fe', rq_cnt (dq_seq W' N s' (1024 * N)).1 N, W', ds, ho, pa, tD, tH)) → wpL_apply post (nI N, fm, nI s, fe, rq_cnt (dq_seq W N s (1024 * N)).1 N, W, ds, ho, pa, tD, tH) op (nI u) (nI v) w
def po_6 (r : Int32) : Int32 := if r = 6 then 1 else 0
theorem po_120 {post : Int32 → St2 → Prop} {r fn : Int32} (hp : post (po_6 r) (fn, fm, fs, fe, fr, W, ds, ho, pa, tD, tH)) : wL_apply_120 post r fn fm fs fe fr W ds ho pa tD tH := by
  unfold po_6 at hp
  by_cases c : r = 6
  · rw [if_pos c] at hp
    exact br_t c hp
  · rw [if_neg c] at hp
    exact br_f c hp
theorem po_r {r : Int32} {P : Prop} (h : r = 6 → P) : po_6 r = 0 ∨ (po_6 r = 1 ∧ P) := by
  unfold po_6
  by_cases c : r = 6
  · rw [if_pos c]; exact Or.inr ⟨rfl, h c⟩
  · rw [if_neg c]; exact Or.inl rfl
theorem po_apply (op : Int32) (hN : N ≤ 32) (hs : s < N) (hW : dq_gr W) (hok : dq_ok W N s) (hu : u < N) (hv : v < N) (w1 : ¬ w < -1000) (w2 : ¬ 1000 < w) (w5 : -1000 ≤ w.toInt) (w6 : w.toInt ≤ 1000) : po_app op u v w N s fm fe W := by
  have oA := po_add (fm := fm) (fe := fe) hN hs hW hok hu hv w1 w2 w5 w6
  have oS := po_setw (fm := fm) (fe := fe) hN hs hW hok hu hv w1 w2 w5 w6
  by_cases c0 : op = 0
  · obtain ⟨r, s', fe', W', q1, q2, q3, q4, q5⟩ := oA
    refine ⟨po_6 r, s', fe', W', q1, q2, q3, po_r q4, fun post ds ho pa tD tH hf hp => ?_⟩
    refine br_t c0 ?_
    unfold wL_apply_9
    exact q5 _ ds ho pa tD tH hf fun ds ho pa tD tH hf' => po_120 (hp ds ho pa tD tH hf')
  by_cases c1 : op = 1
  · obtain ⟨r, s', fe', W', q1, q2, q3, q4, q5⟩ := oA
    refine ⟨po_6 r, s', fe', W', q1, q2, q3, po_r q4, fun post ds ho pa tD tH hf hp => ?_⟩
    refine br_f c0 (br_t c1 ?_)
    unfold wL_apply_9
    exact q5 _ ds ho pa tD tH hf fun ds ho pa tD tH hf' => po_120 (hp ds ho pa tD tH hf')
  by_cases c2 : op = 2
  · obtain ⟨r, s', fe', W', q1, q2, q3, q4, q5⟩ := oS
    refine ⟨po_6 r, s', fe', W', q1, q2, q3, po_r q4, fun post ds ho pa tD tH hf hp => ?_⟩
    refine br_f c0 (br_f c1 (br_t c2 ?_))
    unfold wL_apply_33
    exact q5 _ ds ho pa tD tH hf fun ds ho pa tD tH hf' => po_120 (hp ds ho pa tD tH hf')
  by_cases c7 : op = 7
  · obtain ⟨r, s', fe', W', q1, q2, q3, q4, q5⟩ := oS
    refine ⟨po_6 r, s', fe', W', q1, q2, q3, po_r q4, fun post ds ho pa tD tH hf hp => ?_⟩
    refine br_f c0 (br_f c1 (br_f c2 (br_t c7 ?_)))
    unfold wL_apply_33
    exact q5 _ ds ho pa tD tH hf fun ds ho pa tD tH hf' => po_120 (hp ds ho pa tD tH hf')
  by_cases c3 : op = 3
  · obtain ⟨r, s', fe', W', q1, q2, q3, q4, q5⟩ := po_rem (fm := fm) (fe := fe) hN hs hW hok hu hv
    refine ⟨po_6 r, s', fe', W', q1, q2, q3, po_r q4, fun post ds ho pa tD tH hf hp => ?_⟩
    refine br_f c0 (br_f c1 (br_f c2 (br_f c7 (br_t c3 ?_))))
    exact q5 _ ds ho pa tD tH hf fun ds ho pa tD tH hf' => po_120 (hp ds ho pa tD tH hf')
  by_cases c4 : op = 4
  · obtain ⟨r, fe', W', q2, q3, q5⟩ := po_iso (fe := fe) hN hs hW hok hu
    refine ⟨0, s, fe', W', hs, q2, q3, Or.inl rfl, fun post ds ho pa tD tH hf hp => ?_⟩
    refine br_f c0 (br_f c1 (br_f c2 (br_f c7 (br_f c3 (br_t c4 ?_)))))
    exact q5 _ fm _ ds ho pa tD tH fun ds ho pa tD tH hf' => hp ds ho pa tD tH hf'
  by_cases c5 : op = 5
  · obtain ⟨r, s', fe', W', q1, q2, q3, q4, q5⟩ := po_src (fm := fm) (fe := fe) hN hs hW hok hu
    refine ⟨po_6 r, s', fe', W', q1, q2, q3, po_r q4, fun post ds ho pa tD tH hf hp => ?_⟩
    refine br_f c0 (br_f c1 (br_f c2 (br_f c7 (br_f c3 (br_f c4 (br_t c5 ?_))))))
    exact q5 _ ds ho pa tD tH hf fun ds ho pa tD tH hf' => po_120 (hp ds ho pa tD tH hf')
  by_cases e : W (32 * u + v) = 2147483647
  · obtain ⟨r, s', fe', W', q1, q2, q3, q4, q5⟩ := oA
    refine ⟨po_6 r, s', fe', W', q1, q2, q3, po_r q4, fun post ds ho pa tD tH hf hp => ?_⟩
    refine br_f c0 (br_f c1 (br_f c2 (br_f c7 (br_f c3 (br_f c4 (br_f c5 ?_))))))
    refine pv_e hN hu hv (fun _ => br_t rfl ?_) (fun z => absurd e z)
    exact q5 _ ds ho pa tD tH hf fun ds ho pa tD tH hf' => po_120 (hp ds ho pa tD tH hf')
  · obtain ⟨r, s', fe', W', q1, q2, q3, q4, q5⟩ := oS
    refine ⟨po_6 r, s', fe', W', q1, q2, q3, po_r q4, fun post ds ho pa tD tH hf hp => ?_⟩
    refine br_f c0 (br_f c1 (br_f c2 (br_f c7 (br_f c3 (br_f c4 (br_f c5 ?_))))))
    refine pv_e hN hu hv (fun z => absurd z e) (fun _ => br_f yn_10 ?_)
    exact q5 _ ds ho pa tD tH hf fun ds ho pa tD tH hf' => po_120 (hp ds ho pa tD tH hf')
end
