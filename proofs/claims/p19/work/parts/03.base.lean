section
variable {N s : Nat} {gs gm gc : Int32} {W pr wt d h r : Nat → Int32}
theorem yn_10 : ¬ (1 : Int32) = 0 := by decide
theorem yn_nb {x : Int32} (h : x = 0 ∨ x = 1) : narrow .boolean (.int x) = .int x := by
  rcases h with e | e
  · rw [e]; rfl
  · rw [e]; rfl
end
