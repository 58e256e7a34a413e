/-! READING ONE STATEMENT, on one heap: the class first, then the model on what the class leaves -/
theorem PI.of {h : hH} (hL : Lay h) (h1 : SchI h) (hn : NamR h h 4 0 (h 194)) : PI h h := ⟨schAt_4 hL, h1.1, h1.2, hn, Or.inl rfl⟩
theorem readOne1 {h : hH} (hL : Lay h) (hT : TapeR h) (hR : Res0 h) (hP : PI h h) : ∃ b c, fX2_readStatement h 37 = some (b, c) ∧ Lay c ∧ Fr rsC h c ∧ ((b = 0 ∧ ∃ k a, FRc k a c ∧ 1 ≤ k) ∨ (b = 1 ∧ c 1 8 = 0 ∧ ∃ T, LOk (h 194) T ∧ LinC (h 194) c 0 T)) ∧
    ∀ k : hH, Lay k → k 192 2 = h 192 2 → k 193 = h 193 → k 199 = h 199 → k 194 = h 194 → k 198 = h 198 → ∃ g', fX12_readsOne k 192 = some (b, g') ∧ Lay g' ∧ Fr rsM k g' ∧ g' 192 2 = 0 ∧
      ((b = 0 ∧ FF c g') ∨ (b = 1 ∧ c 1 8 = 0 ∧ g' 192 16 = 0 ∧ LOk (h 194) (fun q => g' 197 (0 + q)) ∧ LinC (h 194) c 0 (fun q => g' 197 (0 + q)))) := by
  obtain ⟨b, c, g0, p1, p2, p3, p4, p5, p6⟩ := readOne2 hL hL (show TapeM h h from hT) hR hP
  refine ⟨b, c, p1, p3.lay hL rsC_1 rsC_2, p3, ?_, fun k Lk e2 e3 e9 e4 e8 => ?_⟩
  · rcases p6 with ⟨z, k, a, f1, f2, f3⟩ | ⟨z, z1, z2, z3, z4⟩
    · exact Or.inl ⟨z, k, a, f1, f3⟩
    · exact Or.inr ⟨z, z1, _, z3, z4⟩
  · have hPk : PI h k := by
      unfold PI at hP ⊢
      rw [e4]
      exact DR.per hP (Or.inl rfl) (fun a _ _ => rfl) e8
    obtain ⟨b', c', g', q1, q2, q3, q4, q5, q6⟩ := readOne2 hL Lk (show TapeM h k from ⟨by rw [e2]; exact hT.1, hT.2.1, hT.2.2.1, fun i i0 i1 => by rw [e3]; exact hT.2.2.2 i i0 i1⟩) (by unfold Res0; rw [e9]; exact hR) hPk
    have e := p1.symm.trans q1
    have e1 : b = b' ∧ c = c' := by injection e with x; injection x with x y; exact ⟨x, y⟩
    obtain ⟨rfl, rfl⟩ := e1
    rw [e4] at q6
    exact ⟨g', q2, q4.lay Lk rsM_1 rsM_2, q4, q5, q6⟩
