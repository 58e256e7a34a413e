/-! WOULD: the model puts back what was -/
theorem wouldBack {m x0 : hH} {a b t : Int} (hL : Lay m) (h2 : m 192 32 = a) (h3 : m 192 33 = b) (ht : m 197 0 = t) (ha : 0 ≤ a ∧ a ≤ 99) (hb : 0 ≤ b ∧ b ≤ 1000) : lpO (fX12_would_s38 x0 192) (m, 0) = some (a + b + if t = 0 then 1 else 0, seg m 194 148 1091 (m 206)) := by
  have lay : ∀ i, Lay (seg m 194 148 i (m 206)) := fun i => (show Fr (fun a b => a == 194 && decide (0 ≤ b)) m (seg m 194 148 i (m 206)) from seg_fr (fun b b0 => by simp; exact b0) (by decide)).lay hL (by decide +kernel) (by decide +kernel)
  obtain ⟨r, r1, r2⟩ := cp_loop (f := fX12_would_s38 x0 192) (h := m) 194 148 1091 (m 206) (fun r => r = (a + b + if t = 0 then 1 else 0, seg m 194 148 1091 (m 206))) (by decide) (fun i h' i0 i1 e => by
    have Lx : Lay h' := by rw [e]; exact lay i
    unfold fX12_would_s38
    dsimp only
    rw [if_pos i1, ly_192_30 Lx, aget_in i0 (by rw [ll_206 Lx]; exact i1), e, seg_off (a := 206) (by decide)]
    simp only [Option.bind_some]
    rw [← e, ly_192_6 Lx, w32_id (x := 148 + i) (by omega) (by omega), aput_in (by omega) (by rw [ll_194 Lx]; omega), w1 (by omega) (by omega)]
    rfl) ⟨_, by
    unfold fX12_would_s38
    dsimp only
    rw [if_neg (by decide), touched_ok (t := t) (lay _) (by decide) (by decide) (by rw [seg_off (by decide)]; exact h2) (by rw [seg_off (by decide)]; exact h3) (by rw [seg_off (by decide)]; exact ht) ha hb]
    rfl, rfl⟩
  rw [r1, r2]
