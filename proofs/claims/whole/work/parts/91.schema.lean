/-! THE CALL schema, BOTH WAYS -/
def scAll (a b : Int) : Bool := sclF a b || scmF a b || schC 4 a b || (a == 1 && b == 1) || ((a == 14 || a == 18) && (b == 0 || b == 1)) || (a == 13 && b == 2) || (a == 22 && (b == 0 || b == 1 || b == 2)) || (a == 0 && b == 11)
theorem scAll_1 : refT.all (fun q => !(scAll q.1 q.2.1)) = true := by decide +kernel
theorem scAll_2 : lenT.all (fun q => !(scAll q.1 (-1))) = true := by decide +kernel
theorem scl_all {a b : Int} (z : sclF a b = true) : scAll a b = true := by unfold scAll; rw [z]; rfl
theorem scm_all {a b : Int} (z : scmF a b = true) : scAll a b = true := by unfold scAll; rw [z]; simp
theorem sch4_all {a b : Int} (z : schC 4 a b = true) : scAll a b = true := by unfold scAll; rw [z]; simp
theorem schAt_4 {h : hH} (hL : Lay h) : SchemaAt h 4 := ⟨ly_4_4 hL, ly_4_5 hL, ly_4_6 hL, ly_4_7 hL, ly_4_8 hL, ly_4_9 hL, ly_4_10 hL, ly_4_11 hL, ll_5 hL, ll_6 hL, ll_7 hL, ll_8 hL, ll_9 hL, ll_10 hL, ll_11 hL, ll_12 hL⟩
/-- a state with no rows -/
theorem state0 {e : hH} (h1 : e 14 0 = 0) (h2 : e 14 1 = 0) (h3 : e 13 2 = 0) (z : ∀ i, 148 ≤ i → i < 1420 → e 194 i = 0) : StI e := by
  have hR : RowsS e 14 (e 194) := ⟨by omega, by omega, fun i i0 i1 => by omega, fun i j i0 i1 j1 => by omega, fun q q0 q1 => Or.inl (by
    dsimp only
    exact z _ (by omega) (by omega)), fun q q0 q1 hq => by
    dsimp only at hq
    rw [z _ (by omega) (by omega)] at hq
    omega⟩
  refine ⟨⟨hR, by rw [show (13 : Int) + 1 = 14 from rfl, h2, z _ (by omega) (by omega)], by rw [h3, z _ (by omega) (by omega)], fun hq => by rw [z _ (by omega) (by omega)] at hq; omega⟩, ?_⟩
  refine ⟨by rw [z _ (by omega) (by omega)]; omega, Or.inl (z _ (by omega) (by omega)), fun q q0 q1 hq => by rw [z _ (by omega) (by omega)] at hq; omega, fun q q0 q1 hq => by rw [z _ (by omega) (by omega)] at hq; omega, fun q q0 q1 => Or.inl (z _ (by omega) (by omega)), ?_, fun hq => by rw [z _ (by omega) (by omega)] at hq; omega⟩
  have : liv (e 194) = (rng 0 (e 14 0)).map (e 15) := alv_eq hR
  rw [this, h1, List.length_map, rng_len]
  decide
theorem schema_ok {h : hH} (hL : Lay h) (hT : TapeR h) (hR : Res0 h) (hU : UndI h) : ∃ r k e, fX11_schema h 0 = some (r, k) ∧ fX12_schema k 192 = some (r, e) ∧ Lay e ∧ Fr scAll h e ∧ e 1 1 = 0 ∧ e 192 2 = 0 ∧ e 1 8 = e 192 16 ∧
    (((∀ a, 4 ≤ a → a < 23 → e a = h a) ∧ e 0 11 = h 0 11 ∧ e 194 = h 194 ∧ (∀ i, i < 20 → e 198 i = h 198 i) ∧ e 192 44 = h 192 44) ∨
     (SchI e ∧ StI e ∧ UndI e ∧ NamR e e 4 0 (e 194) ∧ e 22 0 = 0 ∧ e 194 1239 = 0)) := by
  have hTM : TapeM h h := hT
  obtain ⟨b, c, -, -, p1, -, p3, -⟩ := readSchema2 hL hL hTM hR
  have Lc := p3.lay hL scl_1 scl_2
  -- from a final class heap to the model
  have fin : ∀ k : hH, Fr (fun a b => scAll a b && !(scmF a b)) h k → ∃ r g', fX12_schema k 192 = some (r, g') ∧ Fr scmF k g' ∧ g' 192 2 = 0 ∧
    ((b = 0 ∧ ∃ q a, FRc q a c ∧ FRm q a g' ∧ 1 ≤ q ∧ r = w32 (-1 - a) ∧ g' 194 = k 194 ∧ (∀ i, i < 20 → g' 198 i = k 198 i) ∧ g' 192 44 = k 192 44) ∨
     (b = 1 ∧ c 1 8 = 0 ∧ g' 192 16 = 0 ∧ r = c 24 2 ∧ SchR c 25 (g' 194) ∧ SOk (g' 194) ∧ (∀ i, 148 ≤ i → i < 1420 → g' 194 i = 0) ∧ g' 192 44 = 0 ∧
      (∀ t, 0 ≤ t → t < g' 194 0 → WR (c 26 t) (g' 198 t)) ∧ ∀ t k, 0 ≤ t → t < g' 194 0 → 0 ≤ k → k < g' 194 (4 + t) → WR (c 28 (4 * t + k)) (g' 198 (4 + 4 * t + k)))) := fun k fk => by
    have Lk : Lay k := fk.lay hL (by decide +kernel) (by decide +kernel)
    obtain ⟨b', c', r, g', q1, q2, q3, q4, q5, q6⟩ := readSchema2 hL Lk (show TapeM h k from ⟨by rw [fk 192 2 (by decide)]; exact hT.1, hT.2.1, hT.2.2.1, fun i i0 i1 => by
      rw [fk.row 193 (fun b => by unfold scAll scmF sclF lcF2 lcF tkF tokC lmF2 lmF smF txF nxC layC schC; simp)]; exact hT.2.2.2 i i0 i1⟩) (by
      unfold Res0
      rw [fk.row 199 (fun b => by unfold scAll scmF sclF lcF2 lcF tkF tokC lmF2 lmF smF txF nxC layC schC; simp)]; exact hR)
    have e := p1.symm.trans q1
    have e1 : b = b' ∧ c = c' := by injection e with x; injection x with x y; exact ⟨x, y⟩
    obtain ⟨rfl, rfl⟩ := e1
    exact ⟨r, g', q2, q4, q5, q6⟩
  unfold fX11_schema
  rw [ly_0_4 hL, p1]
  simp only [Option.bind_some, pput]
  rw [ly_0_0 Lc]
  have L1 : Lay (hup c 1 1 0) := Lc.upF (by decide)
  rw [ly_0_0 L1]
  have nf : ∀ a b : Int, sclF a b = true → (scAll a b && !(scmF a b)) = true := fun a b z => by
    rw [scl_all z]
    unfold sclF lcF2 lcF tkF tokC schC at z
    unfold scmF lmF2 lmF smF txF nxC layC
    simp at z ⊢
    omega
  have f1 : Fr (fun a b => scAll a b && !(scmF a b)) h (hup c 1 1 0) := (p3.mono nf).tr (Fr.up (by decide))
  by_cases hb : b = 0
  · rw [if_pos hb]
    obtain ⟨r, g', q1, q2, q3, q4⟩ := fin (hup c 1 1 0) f1
    rcases q4 with ⟨-, q, a, f2, f3, f4, rfl, f5, f6, f7⟩ | ⟨z, -⟩
    · have fr : Fr scAll h g' := (f1.mono (fun a b z => by simp at z; exact z.1)).tr (q2.mono (fun a b z => scm_all z))
      have e19 : w32 (-1 - hup c 1 1 0 1 9) = w32 (-1 - a) := by rw [hup_ne (by omega), f2.2]
      have g1 : g' 1 = hup c 1 1 0 1 := q2.row 1 (fun b => by unfold scmF lmF2 lmF smF txF nxC layC; simp)
      refine ⟨_, _, g', by rw [e19], q1, fr.lay hL scAll_1 scAll_2, fr, by rw [g1, hup_at], q3, by rw [g1, hup_ne (by omega), f2.1, f3.1], Or.inl ⟨fun a a0 a1 => ?_, ?_, ?_, fun i hi => ?_, ?_⟩⟩
      · rw [q2.row a (fun b => by unfold scmF lmF2 lmF smF txF nxC layC; simp; omega), hup_off (by omega)]
        exact p3.row a (fun b => by unfold sclF lcF2 lcF tkF tokC schC; simp; omega)
      · rw [q2 0 11 (by decide), hup_off (by decide)]
        exact p3 0 11 (by decide)
      · rw [f5, hup_off (by decide)]
        exact p3.row 194 (fun b => by unfold sclF lcF2 lcF tkF tokC schC; simp)
      · rw [f6 i hi, hup_off (by decide)]
        rw [p3.row 198 (fun b => by unfold sclF lcF2 lcF tkF tokC schC; simp)]
      · rw [f7, hup_off (by decide)]
        exact p3 192 44 (by decide)
    · omega
  · rw [if_neg hb, ly_0_1 L1, ly_0_4 L1, ly_24_1 L1]
    obtain ⟨k2, c1, c2, c3, c4⟩ := copySch_ok (schAt_25 L1) (schAt_4 L1) (Or.inl (by decide))
    rw [c1]
    simp only [Option.bind_some]
    have L2 : Lay k2 := c2.lay L1 (by decide +kernel) (by decide +kernel)
    unfold fX8_reset fX3_reset fX6_reset
    simp only [Option.bind_some, pput]
    rw [ly_0_2 L2, ly_13_0 L2]
    have L3 : Lay (hup (hup k2 14 0 0) 14 1 0) := (L2.upF (by decide)).upF (by decide)
    rw [ly_13_1 L3]
    have L4 : Lay (hup (hup (hup (hup (hup k2 14 0 0) 14 1 0) 18 0 0) 18 1 0) 13 2 0) := ((L3.upF (by decide)).upF (by decide)).upF (by decide)
    rw [ly_0_3 L4]
    generalize hk : hup (hup (hup (hup (hup (hup (hup (hup (hup k2 14 0 0) 14 1 0) 18 0 0) 18 1 0) 13 2 0) 22 0 0) 22 1 0) 22 2 0) 0 11 0 = k
    have fk : Fr (fun a b => scAll a b && !(scmF a b)) h k := f1.tr ((c2.mono (fun a b z => by
      rw [sch4_all z]
      unfold schC at z
      unfold scmF lmF2 lmF smF txF nxC layC
      simp at z ⊢
      omega)).tr (by
      rw [← hk]
      refine ((((((((Fr.up ?_).tr (Fr.up ?_)).tr (Fr.up ?_)).tr (Fr.up ?_)).tr (Fr.up ?_)).tr (Fr.up ?_)).tr (Fr.up ?_)).tr (Fr.up ?_)).tr (Fr.up ?_) <;> decide))
    have Lk : Lay k := fk.lay hL (by decide +kernel) (by decide +kernel)
    have ko : ∀ a, a ≠ 14 → a ≠ 18 → a ≠ 13 → a ≠ 22 → a ≠ 0 → k a = k2 a := fun a a1 a2 a3 a4 a5 => by rw [← hk, hup_off a5, hup_off a4, hup_off a4, hup_off a4, hup_off a3, hup_off a2, hup_off a2, hup_off a1, hup_off a1]
    obtain ⟨r, g', q1, q2, q3, q4⟩ := fin k fk
    rcases q4 with ⟨z, -⟩ | ⟨-, f1', f2', rfl, f4, f5, f6, f7, f8, f9⟩
    · exact absurd z hb
    · have fr : Fr scAll h g' := (fk.mono (fun a b z => by simp at z; exact z.1)).tr (q2.mono (fun a b z => scm_all z))
      have gk : ∀ a, a < 192 → g' a = k a := fun a ha => q2.row a (fun b => by unfold scmF lmF2 lmF smF txF nxC layC; simp; omega)
      have k1 : k 1 = hup c 1 1 0 1 := by rw [ko 1 (by decide) (by decide) (by decide) (by decide) (by decide)]; exact c2.row 1 (fun b => by unfold schC; simp)
      have kd : ∀ a, 23 ≤ a → k a = hup c 1 1 0 a := fun a ha => by rw [ko a (by omega) (by omega) (by omega) (by omega) (by omega)]; exact c2.row a (fun b => by unfold schC; simp; omega)
      have Lg : Lay g' := fr.lay hL scAll_1 scAll_2
      have e1 : hup c 1 1 0 25 = c 25 := hup_off (by decide)
      have hS1 : SchR (hup c 1 1 0) 25 (g' 194) := SchR.rows (h := c) (fun k k0 k1 => hup_off (by omega)) f4
      have hS2 : SchR k2 4 (g' 194) := hS1.copied (schAt_25 L1) f5 c3 c4
      have g4 : ∀ a, 4 ≤ a → a < 13 → g' a = k2 a := fun a a0 a1 => by rw [gk a (by omega)]; exact ko a (by omega) (by omega) (by omega) (by omega) (by omega)
      refine ⟨_, k, g', ?_, q1, Lg, fr, by rw [gk 1 (by decide), k1, hup_at], q3, by rw [gk 1 (by decide), k1, hup_ne (by omega), f1', f2'], Or.inr ⟨⟨SchR.rows (h := k2) (fun k k0 k1 => g4 _ (by omega) (by omega)) hS2, f5⟩, state0 ?_ ?_ ?_ f6, ?_, ⟨fun t t0 t1 => ?_, fun t x t0 t1 x0 x1 => ?_⟩, ?_, f6 1239 (by decide) (by decide)⟩⟩
      · rw [ly_0_4 Lk, kd 24 (by decide), hup_off (by decide)]
      · rw [gk 14 (by decide), ← hk, hup_off (by decide), hup_off (by decide), hup_off (by decide), hup_off (by decide), hup_off (by decide), hup_off (by decide), hup_off (by decide), hup_ne (by omega), hup_at]
      · rw [gk 14 (by decide), ← hk, hup_off (by decide), hup_off (by decide), hup_off (by decide), hup_off (by decide), hup_off (by decide), hup_off (by decide), hup_off (by decide), hup_at]
      · rw [gk 13 (by decide), ← hk, hup_off (by decide), hup_off (by decide), hup_off (by decide), hup_off (by decide), hup_at]
      · obtain ⟨u, ⟨u1, u2, u3, u4, u5, u6⟩, u7, u8⟩ := hU
        have g74 : g' 74 = h 74 := fr.row 74 (fun b => by unfold scAll scmF sclF lcF2 lcF tkF tokC lmF2 lmF smF txF nxC layC schC; simp)
        refine ⟨0, ⟨?_, Int.le_refl _, by decide, ?_, ?_, fun j j0 j1 => by omega⟩, f7, fun j j0 j1 => by omega⟩
        · rw [gk 0 (by decide), ← hk, hup_at]
        · rw [g74]; exact u4
        · rw [g74]; exact u5
      · have b0 := f5.1
        rw [g4 (4 + 1) (by decide) (by decide), c4 1 (by decide) (by decide) t t0 (by rw [show (25 : Int) + 1 = 26 from rfl, ll_26 L1]; omega), hup_off (by decide), show (0 : Int) + t = t by omega]
        exact f8 t t0 t1
      · have b0 := f5.1
        have bw := f5.2.2.2.2.1 t t0 t1
        rw [g4 (4 + 3) (by decide) (by decide), c4 3 (by decide) (by decide) (4 * t + x) (by omega) (by rw [show (25 : Int) + 3 = 28 from rfl, ll_28 L1]; omega), hup_off (by decide), show (0 : Int) + 4 + 4 * t + x = 4 + 4 * t + x by omega]
        exact f9 t x t0 t1 x0 x1
      · rw [gk 22 (by decide), ← hk, hup_off (by decide), hup_ne (by omega), hup_ne (by omega), hup_at]
