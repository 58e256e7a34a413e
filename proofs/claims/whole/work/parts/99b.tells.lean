/-! WHAT JUDGING TELLS, AND HOW MANY ROWS WERE TOUCHED -/
def tlC (a b : Int) : Bool := telC a b || (a == 192 && b == 42) || (a == 207 && decide (0 ≤ b)) || (a == 208 && decide (0 ≤ b))
theorem tlC_1 : refT.all (fun q => !(tlC q.1 q.2.1)) = true := by decide +kernel
theorem tlC_2 : lenT.all (fun q => !(tlC q.1 (-1))) = true := by decide +kernel
theorem tells_ok {k : hH} {G : Int → Int} {W : List (Int × Int × Int)} {why : Int} (hL : Lay k) (hG : GoM G k) (hV : VioM k W) (hl : W.length ≤ 880) : ∃ e, fX12_tells k 192 why = some e ∧ Fr tlC k e ∧ e 192 42 = 1 ∧ e 207 0 = why ∧ e 207 1 = k 192 31 ∧ e 207 2 = k 192 32 ∧ e 207 3 = (if why = 5 then 0 else k 192 33) ∧ (∀ q, 0 ≤ q → q < 99 → e 208 q = G q) ∧ e 192 41 = W.length ∧ ∀ (i : Nat) (x : Int × Int × Int), W[i]? = some x → e 209 i = x.1 ∧ e 210 i = x.2.1 ∧ e 211 i = x.2.2 := by
  have lay : ∀ x : hH, Fr tlC k x → Lay x := fun x hx => hx.lay hL tlC_1 tlC_2
  have p : ∀ (x : hH), Lay x → ∀ i v, 0 ≤ i → i < 4 → aput x (x 192 36) i v = some (hup x 207 i v) := fun x hx i v i0 i1 => by
    rw [ly_192_36 hx]
    exact aput_in i0 (by rw [ll_207 hx]; exact i1)
  have F1 : Fr tlC k (hup k 192 42 1) := Fr.up (by decide)
  have F2 : Fr tlC k (hup (hup k 192 42 1) 207 0 why) := F1.tr (Fr.up (by decide))
  have F3 : Fr tlC k (hup (hup (hup k 192 42 1) 207 0 why) 207 1 (k 192 31)) := F2.tr (Fr.up (by decide))
  have F4 : Fr tlC k (hup (hup (hup (hup k 192 42 1) 207 0 why) 207 1 (k 192 31)) 207 2 (k 192 32)) := F3.tr (Fr.up (by decide))
  have F5 : Fr tlC k (hup (hup (hup (hup (hup k 192 42 1) 207 0 why) 207 1 (k 192 31)) 207 2 (k 192 32)) 207 3 (if why = 5 then 0 else k 192 33)) := F4.tr (Fr.up (by decide))
  unfold fX12_tells
  simp only [pput, Option.bind_some]
  rw [p _ (lay _ F1) 0 _ (by decide) (by decide)]
  simp only [Option.bind_some]
  rw [show hup (hup k 192 42 1) 207 0 why 192 31 = k 192 31 by rw [hup_off (by decide), hup_ne (by omega)], p _ (lay _ F2) 1 _ (by decide) (by decide)]
  simp only [Option.bind_some]
  rw [show hup (hup (hup k 192 42 1) 207 0 why) 207 1 (k 192 31) 192 32 = k 192 32 by rw [hup_off (by decide), hup_off (by decide), hup_ne (by omega)], p _ (lay _ F3) 2 _ (by decide) (by decide)]
  simp only [Option.bind_some]
  rw [show hup (hup (hup (hup k 192 42 1) 207 0 why) 207 1 (k 192 31)) 207 2 (k 192 32) 192 33 = k 192 33 by rw [hup_off (by decide), hup_off (by decide), hup_off (by decide), hup_ne (by omega)]]
  have hif : (if why = 5 then fX12_tells_b50 (hup (hup (hup (hup k 192 42 1) 207 0 why) 207 1 (k 192 31)) 207 2 (k 192 32)) 192 0 3 (hup (hup (hup (hup k 192 42 1) 207 0 why) 207 1 (k 192 31)) 207 2 (k 192 32) 192 36) else fX12_tells_b50 (hup (hup (hup (hup k 192 42 1) 207 0 why) 207 1 (k 192 31)) 207 2 (k 192 32)) 192 (k 192 33) 3 (hup (hup (hup (hup k 192 42 1) 207 0 why) 207 1 (k 192 31)) 207 2 (k 192 32) 192 36)) = fX12_tells_b50 (hup (hup (hup (hup k 192 42 1) 207 0 why) 207 1 (k 192 31)) 207 2 (k 192 32)) 192 (if why = 5 then 0 else k 192 33) 3 (hup (hup (hup (hup k 192 42 1) 207 0 why) 207 1 (k 192 31)) 207 2 (k 192 32) 192 36) := by
    split <;> rfl
  rw [hif]
  unfold fX12_tells_b50
  rw [p _ (lay _ F4) 3 _ (by decide) (by decide)]
  simp only [Option.bind_some]
  generalize hk5 : hup (hup (hup (hup (hup k 192 42 1) 207 0 why) 207 1 (k 192 31)) 207 2 (k 192 32)) 207 3 (if why = 5 then 0 else k 192 33) = k5 at F5 ⊢
  have r207 : k5 207 0 = why ∧ k5 207 1 = k 192 31 ∧ k5 207 2 = k 192 32 ∧ k5 207 3 = (if why = 5 then 0 else k 192 33) := by
    rw [← hk5]
    exact ⟨by rw [hup_ne (by omega), hup_ne (by omega), hup_ne (by omega), hup_at], by rw [hup_ne (by omega), hup_ne (by omega), hup_at], by rw [hup_ne (by omega), hup_at], by rw [hup_at]⟩
  have r42 : k5 192 42 = 1 := by rw [← hk5, hup_off (by decide), hup_off (by decide), hup_off (by decide), hup_off (by decide), hup_at]
  have ro : ∀ a, a ≠ 192 → a ≠ 207 → k5 a = k a := fun a a1 a2 => by rw [← hk5, hup_off a2, hup_off a2, hup_off a2, hup_off a2, hup_off a1]
  have r26 : k5 192 26 = k 192 26 := F5 192 26 (by decide)
  obtain ⟨e, e1, e4⟩ := lpO_invG (f := fX12_tells_s53 k5 192) (fun i (x : hH) => (x, i)) 99 (fun i x => Fr (fun a b => a == 208 && decide (0 ≤ b)) k5 x ∧ ∀ q, 0 ≤ q → q < i → x 208 q = G q) (fun e => ∃ x, Fr (fun a b => a == 208 && decide (0 ≤ b)) k5 x ∧ (∀ q, 0 ≤ q → q < 99 → x 208 q = G q) ∧ Fr telC x e ∧ (e 192 41 = W.length ∧ ∀ (i : Nat) (y : Int × Int × Int), W[i]? = some y → e 209 i = y.1 ∧ e 210 i = y.2.1 ∧ e 211 i = y.2.2)) (fun i x i0 i1 hx => by
    have Lx : Lay x := hx.1.lay (lay _ F5) (by decide +kernel) (by decide +kernel)
    refine Or.inl ⟨hup x 208 i (G i), ?_, hx.1.tr (Fr.up (by simp; omega)), fun q q0 q1 => ?_⟩
    · unfold fX12_tells_s53
      dsimp only
      rw [if_pos i1, ly_192_29 Lx, aget_in i0 (by rw [ll_205 Lx]; exact i1), hx.1.row 205 (fun b => by simp), ro 205 (by decide) (by decide), hG i i0 i1]
      simp only [Option.bind_some]
      rw [ly_192_37 Lx, aput_in i0 (by rw [ll_208 Lx]; exact i1), w1 (by omega) (by omega)]
      rfl
    · by_cases z : q = i
      · rw [z, hup_at]
      · rw [hup_ne (by omega)]; exact hx.2 q q0 (by omega)) (fun x hx => by
    have Lx : Lay x := hx.1.lay (lay _ F5) (by decide +kernel) (by decide +kernel)
    have Vx : VioM x W := by
      unfold VioM at hV ⊢
      rw [hx.1 192 26 (by decide), r26, hx.1.row 200 (fun b => by simp), hx.1.row 201 (fun b => by simp), hx.1.row 202 (fun b => by simp), ro 200 (by decide) (by decide), ro 201 (by decide) (by decide), ro 202 (by decide) (by decide)]
      exact hV
    obtain ⟨e, t1, t2, t3⟩ := tellsV_ok Lx Vx hl
    refine ⟨e, ?_, x, hx.1, hx.2, t2, t3⟩
    unfold fX12_tells_s53
    dsimp only
    rw [if_neg (by decide), t1]
    rfl) (i := 0) (a := k5) (Int.le_refl _) (by decide) ⟨Fr.rf, fun q q0 q1 => by omega⟩
  obtain ⟨xx, e3, e4, e5, e6⟩ := e4
  have n207 : e 207 = k5 207 := by rw [e5.row 207 (fun b => by unfold telC; simp), e3.row 207 (fun b => by simp)]
  refine ⟨e, e1, F5.tr ((e3.mono (fun a b z => by unfold tlC; simp at z ⊢; omega)).tr (e5.mono (fun a b z => by unfold tlC; rw [z]; rfl))), by rw [e5 192 42 (by decide), e3 192 42 (by decide)]; exact r42, by rw [n207]; exact r207.1, by rw [n207]; exact r207.2.1, by rw [n207]; exact r207.2.2.1, by rw [n207]; exact r207.2.2.2, fun q q0 q1 => by rw [e5.row 208 (fun b => by unfold telC; simp)]; exact e4 q q0 q1, e6⟩
theorem touched_ok {k : hH} {to a b t : Int} (hL : Lay k) (t0 : 0 ≤ to) (t1 : to < 800) (h2 : k 192 32 = a) (h3 : k 192 33 = b) (ht : k 197 to = t) (ha : 0 ≤ a ∧ a ≤ 99) (hb : 0 ≤ b ∧ b ≤ 1000) : fX12_touched k 192 to = some (a + b + if t = 0 then 1 else 0) := by
  unfold fX12_touched fX12_touched_b23
  rw [row197 hL t0 t1, ht, h2, h3, w32_id (x := a + b) (by omega) (by omega)]
  simp only [Option.bind_some]
  rw [w32_id (x := a + b + 1) (by omega) (by omega), w32_id (x := a + b + 0) (by omega) (by omega)]
  split <;> rfl
