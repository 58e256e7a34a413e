/-! COMMIT, NOW as calls -/
def telC (a b : Int) : Bool := ((a == 209 || a == 210 || a == 211) && decide (0 ≤ b)) || (a == 192 && b == 41)
theorem tellsV_ok {g : hH} {L : List (Int × Int × Int)} (hL : Lay g) (hV : VioM g L) (hl : L.length ≤ 880) : ∃ g', fX12_tellsViolations g 192 = some g' ∧ Fr telC g g' ∧ g' 192 41 = L.length ∧ ∀ (i : Nat) (x : Int × Int × Int), L[i]? = some x → g' 209 i = x.1 ∧ g' 210 i = x.2.1 ∧ g' 211 i = x.2.2 := by
  obtain ⟨v0, v1⟩ := hV
  unfold fX12_tellsViolations
  simp only [pput, Option.bind_some]
  rw [v0]
  generalize hq : hup g 192 41 (L.length : Int) = q
  have qa : ∀ a, a ≠ 192 → q a = g a := fun a ha => by rw [← hq, hup_off ha]
  have q26 : q 192 26 = L.length := by rw [← hq, hup_ne (by decide), v0]
  have q41 : q 192 41 = L.length := by rw [← hq, hup_at]
  have fq : Fr telC g q := by rw [← hq]; exact Fr.up (by decide)
  have Lq : Lay q := fq.lay hL (by decide +kernel) (by decide +kernel)
  refine lpO_inv (f := fX12_tellsViolations_s10 q 192) (h := q) (i := 0) (L.length : Int) (fun i h' => Fr telC g h' ∧ (∀ a, a ≠ 209 → a ≠ 210 → a ≠ 211 → h' a = q a) ∧ ∀ (j : Nat) (x : Int × Int × Int), (j : Int) < i → L[j]? = some x → h' 209 j = x.1 ∧ h' 210 j = x.2.1 ∧ h' 211 j = x.2.2) (fun g' => Fr telC g g' ∧ g' 192 41 = L.length ∧ ∀ (i : Nat) (x : Int × Int × Int), L[i]? = some x → g' 209 i = x.1 ∧ g' 210 i = x.2.1 ∧ g' 211 i = x.2.2) (fun i h' i0 i1 hI => ?_) (fun h' hI => ?_) (Int.le_refl _) (by omega) ⟨fq, fun _ _ _ _ => rfl, fun j x hj => by omega⟩
  · obtain ⟨c1, c2, c3⟩ := hI
    have L' : Lay h' := c1.lay hL (by decide +kernel) (by decide +kernel)
    have hil : i.toNat < L.length := by omega
    obtain ⟨w1, w2, w3⟩ := v1 i.toNat _ (List.getElem?_eq_getElem hil)
    rw [show ((i.toNat : Nat) : Int) = i by omega] at w1 w2 w3
    have r0 : h' 200 i = g 200 i := by rw [c2 200 (by decide) (by decide) (by decide), qa 200 (by decide)]
    have r1 : h' 201 i = g 201 i := by rw [c2 201 (by decide) (by decide) (by decide), qa 201 (by decide)]
    have r2 : h' 202 i = g 202 i := by rw [c2 202 (by decide) (by decide) (by decide), qa 202 (by decide)]
    have e26 : h' 192 26 = L.length := by rw [c2 192 (by decide) (by decide) (by decide), q26]
    unfold fX12_tellsViolations_s10
    dsimp only
    rw [e26, if_pos i1, ly_192_23 L', aget_in i0 (by rw [ll_200 L']; omega)]
    simp only [Option.bind_some]
    rw [ly_192_38 L', aput_in i0 (by rw [ll_209 L']; omega)]
    simp only [Option.bind_some]
    generalize hx : hup h' 209 i (h' 200 i) = x
    have fx : Fr telC h' x := by rw [← hx]; exact Fr.up (by unfold telC; simp; omega)
    have Lx : Lay x := fx.lay L' (by decide +kernel) (by decide +kernel)
    have xa : ∀ a, a ≠ 209 → x a = h' a := fun a ha => by rw [← hx, hup_off ha]
    rw [ly_192_24 Lx, aget_in i0 (by rw [ll_201 Lx]; omega)]
    simp only [Option.bind_some]
    rw [ly_192_39 Lx, aput_in i0 (by rw [ll_210 Lx]; omega)]
    simp only [Option.bind_some]
    generalize hy : hup x 210 i (x 201 i) = y
    have fy : Fr telC x y := by rw [← hy]; exact Fr.up (by unfold telC; simp; omega)
    have Ly : Lay y := fy.lay Lx (by decide +kernel) (by decide +kernel)
    have ya : ∀ a, a ≠ 210 → y a = x a := fun a ha => by rw [← hy, hup_off ha]
    rw [ly_192_25 Ly, aget_in i0 (by rw [ll_202 Ly]; omega)]
    simp only [Option.bind_some]
    rw [ly_192_40 Ly, aput_in i0 (by rw [ll_211 Ly]; omega), w32_id (by omega) (by omega)]
    refine ⟨_, rfl, c1.tr (fx.tr (fy.tr (Fr.up (by unfold telC; simp; omega)))), fun a h1 h2 h3 => ?_, fun j z hj hz => ?_⟩
    · rw [hup_off h3, ya a h2, xa a h1, c2 a h1 h2 h3]
    · by_cases e : (j : Int) = i
      · have ej : j = i.toNat := by omega
        subst ej
        rw [List.getElem?_eq_getElem hil] at hz
        cases hz
        have y1 : y 209 i = h' 200 i := by rw [ya 209 (by decide), ← hx, hup_at]
        have y2 : y 210 i = h' 201 i := by rw [← hy, hup_at, xa 201 (by decide)]
        have y3 : y 202 i = h' 202 i := by rw [ya 202 (by decide), xa 202 (by decide)]
        rw [e, hup_off (by decide), hup_off (by decide), hup_at, y1, y2, y3, r0, r1, r2]
        exact ⟨w1, w2, w3⟩
      · obtain ⟨u1, u2, u3⟩ := c3 j z (by omega) hz
        rw [hup_off (by decide), hup_off (by decide), hup_ne (by omega), ya 209 (by decide), ya 211 (by decide), xa 211 (by decide), ← hx, hup_ne (by omega), ← hy, hup_ne (by omega), xa 210 (by decide)]
        exact ⟨u1, u2, u3⟩
  · obtain ⟨c1, c2, c3⟩ := hI
    unfold fX12_tellsViolations_s10
    dsimp only
    rw [c2 192 (by decide) (by decide) (by decide), q26, if_neg (Int.lt_irrefl _)]
    refine ⟨h', rfl, c1, by rw [c2 192 (by decide) (by decide) (by decide), q41], fun i x hx => c3 i x ?_ hx⟩
    have := (List.getElem?_eq_some_iff.mp hx).1
    omega
def vioC (v a b : Int) : Bool := (a == v && b == 0) || (a == v + 1 && decide (0 ≤ b))
theorem Only.fr {v : Int} {h h' : hH} (ho : Only v h h') (hb : ∀ j, j < 0 → h' (v + 1) j = h (v + 1) j) : Fr (vioC v) h h' := by
  intro a b z
  unfold vioC at z
  simp at z
  by_cases e : a = v
  · subst e
    exact ho.2.1 b (fun y => z.1 rfl y)
  · by_cases e2 : a = v + 1
    · subst e2
      exact hb b (by omega)
    · exact congrFun (ho.1 a e e2) b
