/-! THE VIOLATIONS OF WHAT WOULD BE -/
theorem vioN_ok {S T : Int → Int} (hs : SOk S) (hO : StOk S) (hlen : ¬ noRm S T → ¬ clsh S T → (liv (newS S T)).length ≤ 40) : (vioN S T).length ≤ 880 ∧ VRng (vioN S T) := by
  unfold vioN
  by_cases z : noRm S T ∨ clsh S T
  · rw [if_pos z]
    exact ⟨by decide, fun x hx => by cases hx⟩
  · rw [if_neg z]
    have hn : ¬ noRm S T := fun y => z (Or.inl y)
    have hc : ¬ clsh S T := fun y => z (Or.inr y)
    have hs' : SOk (newS S T) := hs.cong (fun i i0 i1 => new_lo hO.1 hn (Or.inl i1))
    exact ⟨vioL_len hs' (hlen hn hc), vioL_rng hs'⟩
