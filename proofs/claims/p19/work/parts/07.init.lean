section
variable {k N s m i j : Nat} {fe w : Int32} {W ds ho pa tD tH pr wt d h r : Nat → Int32}
end
section
theorem xl_clamp (p : Int32) {a b : Nat} (hab : a ≤ b) (hb : b < 2 ^ 31) : ∃ c, a ≤ c ∧ c ≤ b ∧ ((nI a ≤ p ∧ p ≤ nI b ∧ p = nI c) ∨ (nI a ≤ p ∧ ¬ p ≤ nI b ∧ c = b) ∨ (¬ nI a ≤ p ∧ c = a)) := by
  by_cases h1 : nI a ≤ p
  · by_cases h2 : p ≤ nI b
    · have h0 : ¬ p < 0 := fun z => by
        rw [Int32.le_iff_toInt_le, nI_toInt (by omega)] at h1
        rw [Int32.lt_iff_toInt_lt, dq_t0] at z
        omega
      obtain ⟨c, hc, rfl⟩ := nI_of h0
      exact ⟨c, (nI_leI (by omega) hc).mp h1, (nI_leI hc hb).mp h2, Or.inl ⟨h1, h2, rfl⟩⟩
    · exact ⟨b, hab, Nat.le_refl _, Or.inr (Or.inl ⟨h1, h2, rfl⟩)⟩
  · exact ⟨a, Nat.le_refl _, hab, Or.inr (Or.inr ⟨h1, rfl⟩)⟩
def xl_is (p : Int32) (a b c : Nat) : Prop := (nI a ≤ p ∧ p ≤ nI b ∧ p = nI c) ∨ (nI a ≤ p ∧ ¬ p ≤ nI b ∧ c = b) ∨ (¬ nI a ≤ p ∧ c = a)
theorem xl_cx {post : Int32 → Prop} {p : Int32} {a b c : Nat} (h : xl_is p a b c) (hp : post (nI c)) : wpX_clamp post () p (nI a) (nI b) := by
  rcases h with ⟨h1, h2, e⟩ | ⟨h1, h2, e⟩ | ⟨h1, e⟩
  · rw [← e] at hp
    exact br_t h1 (br_t h2 hp)
  · rw [e] at hp
    exact br_t h1 (br_f h2 hp)
  · rw [e] at hp
    exact br_f h1 hp
/-- all slots cleared -/
def xl_clr : Nat → Int32 := fun x => if x < 1024 then 2147483647 else 0
theorem xl_clr1 {x : Nat} (h : x < 1024) : xl_clr x = 2147483647 := if_pos h
theorem xl_cw {post : St2 → Prop} {fn fm fs fe fr : Int32} {ds ho pa tD tH : Nat → Int32} (hp : post (fn, fm, fs, fe, fr, xl_clr, ds, ho, pa, tD, tH)) : ∀ e i, i + e = 1024 → ∀ n, e < n → ∀ W : Nat → Int32, (∀ x, (x < i → W x = 2147483647) ∧ (i ≤ x → W x = 0)) → wX_clearWeights_2 post fn fm fs fe fr n (nI i) W ds ho pa tD tH := by
  intro e
  induction e with
  | zero =>
    intro i hi n hn W hz
    obtain ⟨n', rfl⟩ : ∃ n', n = n' + 1 := ⟨n - 1, by omega⟩
    have hi2 : i = 1024 := by omega
    subst hi2
    have eW : W = xl_clr := by
      funext x
      unfold xl_clr
      by_cases c : x < 1024
      · rw [if_pos c]; exact (hz x).1 c
      · rw [if_neg c]; exact (hz x).2 (by omega)
    rw [eW]
    exact br_t (nI_le (a := 1024) (b := 1024) (Nat.le_refl _) (by decide)) hp
  | succ e ih =>
    intro i hi n hn W hz
    obtain ⟨n', rfl⟩ : ∃ n', n = n' + 1 := ⟨n - 1, by omega⟩
    have hk : i < 1024 := by omega
    refine br_f (nI_ge (b := 1024) hk (by decide)) ⟨xn_v hk, nm_r (show upd W (nI i).toNatClampNeg 2147483647 = upd W i 2147483647 by rw [xn_c hk]) (nm_r (nI_1 i) (ih (i + 1) (by omega) n' (by omega) _ fun x => ⟨fun hx => ?_, fun hx => ?_⟩))⟩
    · by_cases c : x = i
      · rw [c]; exact pk_us
      · rw [pk_un c]; exact (hz x).1 (by omega)
    · rw [pk_un (by omega)]; exact (hz x).2 (by omega)
end
