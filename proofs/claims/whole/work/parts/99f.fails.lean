/-! STATEMENT, WOULD: the text fails -/
def deF (a b : Int) : Bool := rsC a b || rsM a b || (a == 1 && b == 1)
theorem deF_1 : refT.all (fun q => !(deF q.1 q.2.1)) = true := by decide +kernel
theorem deF_2 : lenT.all (fun q => !(deF q.1 (-1))) = true := by decide +kernel
theorem rsC_row {h c : hH} (hf : Fr rsC h c) {a : Int} (h1 : a ≠ 1) (h3 : a ≠ 3) (h37 : a ≠ 37) (h38 : a ≠ 38) : c a = h a := hf.row a (fun b => by unfold rsC lnC2 lnC tkF tokC; simp; omega)
theorem decideFail {h c : hH} (hL : Lay h) (hT : TapeR h) (hR : Res0 h) (hP : PI h h) (hr : fX2_readStatement h 37 = some (0, c)) : ∃ r e, (∀ keep, fX11_decide h 0 keep = some (r, hup c 1 1 0)) ∧ fX12_statement (hup c 1 1 0) 192 = some (r, e) ∧ fX12_would (hup c 1 1 0) 192 = some (r, e) ∧ Lay e ∧ Fr deF h e ∧ e 1 1 = 0 ∧ e 192 2 = 0 ∧ FauI e := by
  obtain ⟨b, c', p1, p2, p3, p4, p5⟩ := readOne1 hL hT hR hP
  have e := hr.symm.trans p1
  have e1 : 0 = b ∧ c = c' := by injection e with x; injection x with x y; exact ⟨x, y⟩
  obtain ⟨rfl, rfl⟩ := e1
  have Lk : Lay (hup c 1 1 0) := p2.upF (by decide)
  have o : ∀ a, a ≠ 1 → hup c 1 1 0 a = c a := fun a ha => hup_off ha
  obtain ⟨g', q1, q2, q3, q4, q5⟩ := p5 (hup c 1 1 0) Lk (by rw [o 192 (by decide)]; exact p3 192 2 (by decide)) (by rw [o 193 (by decide), rsC_row p3 (by decide) (by decide) (by decide) (by decide)]) (by rw [o 199 (by decide), rsC_row p3 (by decide) (by decide) (by decide) (by decide)]) (by rw [o 194 (by decide), rsC_row p3 (by decide) (by decide) (by decide) (by decide)]) (by rw [o 198 (by decide), rsC_row p3 (by decide) (by decide) (by decide) (by decide)])
  rcases q5 with ⟨-, k, a, f1, f2, f3⟩ | ⟨z, -⟩
  · have g1 : g' 1 = hup c 1 1 0 1 := q3.row 1 (fun b => by unfold rsM lnM txF nxC; simp)
    refine ⟨w32 (-2 - a), g', fun keep => ?_, ?_, ?_, q2, ?_, by rw [g1, hup_at], q4, ?_⟩
    · unfold fX11_decide
      rw [ly_0_6 hL, p1]
      simp only [Option.bind_some, pput, if_true]
      rw [ly_0_0 p2, ly_0_0 Lk, hup_ne (by omega), f1.2]
    · unfold fX12_statement
      rw [q1]
      simp only [Option.bind_some, if_true]
      rw [f2.2]
    · unfold fX12_would
      rw [q1]
      simp only [Option.bind_some, if_true]
      rw [f2.2]
    · exact (p3.mono (fun a b z => by unfold deF; rw [z]; rfl)).tr ((Fr.up (by decide)).tr (q3.mono (fun a b z => by unfold deF; rw [z]; simp)))
    · unfold FauI
      rw [g1, hup_ne (by omega), f1.1, f2.1]
  · omega
