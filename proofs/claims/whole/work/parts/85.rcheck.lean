/-! READING A SCHEMA: checks -/
section SIM
variable {B : Int → Int} {L M n : Int} {K A V E : Int → Int}
/-- what of the row a check's line fills -/
def CkF (v i : Int) : Prop := i = 3 ∨ i = 112 + v ∨ i = 118 + v ∨ i = 124 + v ∨ i = 130 + v ∨ i = 136 + v ∨ i = 142 + v
theorem ckDraft {c g z w : hH} {v t cl op y e4 lt : Int} (hD : DI c g) (hv : g 195 3 = v) (hv6 : v < 6) (hLz : Lay z)
    (ht : 0 ≤ t ∧ t < g 195 0) (hcl : 0 ≤ cl ∧ cl < g 195 (4 + t)) (hop : op = 60 ∨ op = 61 ∨ op = 62) (hy : -1 ≤ y ∧ y < g 195 (4 + t)) (hlt : lt = 0 ∨ lt = 1)
    (w3 : w 195 3 = v + 1) (n112 : w 195 (112 + v) = t) (n118 : w 195 (118 + v) = cl) (n124 : w 195 (124 + v) = op) (n136 : w 195 (136 + v) = y) (n142 : w 195 (142 + v) = lt)
    (n130 : y = -1 → e4 = w 195 (130 + v)) (n130b : y = -1 → 0 ≤ w 195 (130 + v) ∧ w 195 (130 + v) ≤ 99)
    (qo : ∀ i, ¬ CkF v i → w 195 i = g 195 i) (w198 : w 198 = g 198)
    (z33 : ∀ i, z 33 i = if i = v * 6 + 5 then lt else if i = v * 6 + 4 then e4 else if i = v * 6 + 3 then y else if i = v * 6 + 2 then op else if i = v * 6 + 1 then cl else if i = v * 6 + 0 then t else c 33 i)
    (z25 : ∀ i, i ≠ 3 → z 25 i = c 25 i) (z25b : z 25 3 = v + 1) (zr : ∀ a, (26 ≤ a ∧ a < 34) → a ≠ 33 → z a = c a) : DI z w := by
  have hs := hD.2.2.1
  have v0 : 0 ≤ v := by have := hs.2.2.2.1; omega
  obtain ⟨dA, ⟨⟨r0, r1, r2, r3⟩, rw', rd, rn, rk, rf, rc⟩, -, ⟨nm1, nm2⟩, -⟩ := hD
  have hs0 := hs.1
  have hs1 := hs.2.1
  have hs2 := hs.2.2.1
  have hs3 := hs.2.2.2.1
  refine ⟨schAt_25 hLz, ⟨⟨?_, ?_, ?_, ?_⟩, fun t t0 t1 => ?_, fun i i0 i1 => ?_, fun i i0 i1 => ?_, fun k k0 k1 => ?_, fun f f0 f1 => ?_, fun x x0 x1 => ?_⟩, ?_, ⟨fun t t0 t1 => ?_, fun t x t0 t1 x0 x1 => ?_⟩, Or.inr rfl⟩
  · rw [z25 0 (by decide), qo 0 (by unfold CkF; omega)]; exact r0
  · rw [z25 1 (by decide), qo 1 (by unfold CkF; omega)]; exact r1
  · rw [z25 2 (by decide), qo 2 (by unfold CkF; omega)]; exact r2
  · rw [z25b, w3]
  · rw [qo 0 (by unfold CkF; omega)] at t1
    rw [zr _ (by decide) (by decide), qo (4 + t) (by unfold CkF; omega)]; exact rw' t t0 t1
  · rw [zr _ (by decide) (by decide), qo (8 + i) (by unfold CkF; omega)]; exact rd i i0 i1
  · rw [zr _ (by decide) (by decide), qo (24 + i) (by unfold CkF; omega)]; exact rn i i0 i1
  · rw [qo 1 (by unfold CkF; omega)] at k1
    rw [zr _ (by decide) (by decide), qo (40 + k) (by unfold CkF; omega), qo (46 + k) (by unfold CkF; omega), qo (52 + k) (by unfold CkF; omega)]
    exact rk k k0 k1
  · rw [qo 2 (by unfold CkF; omega)] at f1
    rw [zr _ (by decide) (by decide), qo (58 + f) (by unfold CkF; omega), qo (76 + f) (by unfold CkF; omega), qo (82 + f) (by unfold CkF; omega), qo (88 + f) (by unfold CkF; omega), qo (94 + f) (by unfold CkF; omega), qo (100 + f) (by unfold CkF; omega), qo (106 + f) (by unfold CkF; omega), qo (64 + f) (by unfold CkF; omega), qo (70 + f) (by unfold CkF; omega)]
    exact rf f f0 f1
  · rw [w3] at x1
    rw [show (25 : Int) + 8 = 33 from rfl, z33, z33, z33, z33, z33, z33]
    by_cases e : x = v
    · subst e
      rw [if_neg (by omega), if_neg (by omega), if_neg (by omega), if_neg (by omega), if_neg (by omega), if_pos (by omega), if_neg (by omega), if_neg (by omega), if_neg (by omega), if_neg (by omega), if_pos (by omega), if_neg (by omega), if_neg (by omega), if_neg (by omega), if_pos (by omega), if_neg (by omega), if_neg (by omega), if_pos (by omega), if_neg (by omega), if_pos (by omega), if_pos (by omega), n112, n118, n124, n136, n142]
      exact ⟨rfl, rfl, rfl, rfl, n130, rfl⟩
    · rw [if_neg (by omega), if_neg (by omega), if_neg (by omega), if_neg (by omega), if_neg (by omega), if_neg (by omega), if_neg (by omega), if_neg (by omega), if_neg (by omega), if_neg (by omega), if_neg (by omega), if_neg (by omega), if_neg (by omega), if_neg (by omega), if_neg (by omega), if_neg (by omega), if_neg (by omega), if_neg (by omega), if_neg (by omega), if_neg (by omega), if_neg (by omega), if_neg (by omega), if_neg (by omega), if_neg (by omega), if_neg (by omega), if_neg (by omega), if_neg (by omega), if_neg (by omega), if_neg (by omega), if_neg (by omega), if_neg (by omega), if_neg (by omega), if_neg (by omega), if_neg (by omega), if_neg (by omega), if_neg (by omega), qo (112 + x) (by unfold CkF; omega), qo (118 + x) (by unfold CkF; omega), qo (124 + x) (by unfold CkF; omega), qo (136 + x) (by unfold CkF; omega), qo (130 + x) (by unfold CkF; omega), qo (142 + x) (by unfold CkF; omega)]
      exact rc x x0 (by omega)
  · refine hs.ext (by rw [qo 0 (by unfold CkF; omega)]; exact ⟨Int.le_refl _, hs.1.2⟩) (by rw [qo 1 (by unfold CkF; omega)]; exact ⟨Int.le_refl _, hs.2.1.2⟩) (by rw [qo 2 (by unfold CkF; omega)]; exact ⟨Int.le_refl _, hs.2.2.1.2⟩) (by rw [w3]; omega) (fun t t0 t1 => qo _ (by unfold CkF; omega)) (fun t t0 t1 => by rw [qo 0 (by unfold CkF; omega)] at t1; omega) (fun i i0 i1 => by rw [qo (8 + i) (by unfold CkF; omega)]; exact hs.2.2.2.2.2.1 i i0 i1) (fun i i0 i1 => by rw [qo (24 + i) (by unfold CkF; omega)]; exact hs.2.2.2.2.2.2.1 i i0 i1) (fun k k0 k1 => ⟨qo _ (by unfold CkF; omega), qo _ (by unfold CkF; omega), qo _ (by unfold CkF; omega)⟩) (fun k k0 k1 => by rw [qo 1 (by unfold CkF; omega)] at k1; omega) (fun f f0 f1 => ⟨qo _ (by unfold CkF; omega), qo _ (by unfold CkF; omega), qo _ (by unfold CkF; omega), qo _ (by unfold CkF; omega), qo _ (by unfold CkF; omega), qo _ (by unfold CkF; omega), qo _ (by unfold CkF; omega), qo _ (by unfold CkF; omega), qo _ (by unfold CkF; omega)⟩) (fun f f0 f1 => by rw [qo 2 (by unfold CkF; omega)] at f1; omega) (fun x x0 x1 => ⟨qo _ (by unfold CkF; omega), qo _ (by unfold CkF; omega), qo _ (by unfold CkF; omega), qo _ (by unfold CkF; omega), qo _ (by unfold CkF; omega), qo _ (by unfold CkF; omega)⟩) (fun x x0 x1 => ?_)
    rw [w3] at x1
    have : x = v := by omega
    subst this
    rw [n112, n118, n124, n136, n142, qo 0 (by unfold CkF; omega), qo (4 + t) (by unfold CkF; omega)]
    exact ⟨ht, hcl, hop, hy, n130b, hlt⟩
  · rw [qo 0 (by unfold CkF; omega)] at t1
    rw [zr _ (by decide) (by decide), w198]; exact nm1 t t0 t1
  · rw [qo 0 (by unfold CkF; omega)] at t1
    rw [qo (4 + t) (by unfold CkF; omega)] at x1
    rw [zr _ (by decide) (by decide), w198]; exact nm2 t x t0 t1 x0 x1
theorem cmp2 {c : hH} {j : Int} (hC : Chain B L M n K A V E) (hc : SC n K A V j c) : ∃ x c', fX9_takeComparison c 1 = some (x, c') ∧ Fr tkF c c' ∧ ((x = -1 ∧ ¬ (60 ≤ K j ∧ K j ≤ 62) ∧ FRc 1 (A j) c') ∨ (x = K j ∧ (60 ≤ K j ∧ K j ≤ 62) ∧ SC n K A V (nx n j) c' ∧ c' 1 8 = c 1 8)) := by
  obtain ⟨c1, k1, k2, k3, k4, -⟩ := stepC hC hc
  obtain ⟨c2, f1, f2, f3⟩ := failC (k := 1) hc
  unfold fX9_takeComparison fX9_takeComparison_b31
  rw [hc.k, k1, f1]
  simp only [Option.bind_some]
  by_cases z : 60 ≤ K j ∧ K j ≤ 62
  · refine ⟨K j, c1, ?_, k3, Or.inr ⟨rfl, z, k2, k4⟩⟩
    by_cases a : K j = 60
    · rw [if_pos a]
    · rw [if_neg a]
      by_cases b : K j = 61
      · rw [if_pos b]
      · rw [if_neg b, if_pos (by omega)]
  · refine ⟨-1, c2, ?_, f3, Or.inl ⟨rfl, z, f2⟩⟩
    rw [if_neg (by omega), if_neg (by omega), if_neg (by omega)]
/-- an option: both at the same word -/
theorem opt2 {c g : hH} {j i : Int} (hC : Chain B L M n K A V E) (hc : SC n K A V j c) (i0 : 0 ≤ i) (i1 : i < 29) : ∃ c' j', fX9_option c 1 (128 + i) = some (if K j = 128 + i then 1 else 0, c') ∧ SC n K A V j' c' ∧ Fr tkF c c' ∧ c' 1 8 = c 1 8 ∧ j ≤ j' ∧ ∀ g, SM B L M n K A V E j g → fX12_isWord g 192 (rs256 i) = some (if K j = 128 + i then 1 else 0) ∧ (K j ≠ 128 + i → j' = j) ∧ (K j = 128 + i → ∃ g', fX12_next g 192 = some g' ∧ SM B L M n K A V E j' g' ∧ Fr nxC g g') := by
  unfold fX9_option
  rw [hc.k]
  by_cases z : K j = 128 + i
  · obtain ⟨c1, k1, k2, k3, k4, -⟩ := stepC hC hc
    rw [if_pos z, k1, if_pos z]
    exact ⟨c1, nx n j, rfl, k2, k3, k4, nx_le, fun g hg => ⟨by rw [isWordM hg i0 i1, if_pos z], fun y => absurd z y, fun _ => nextM hC hg⟩⟩
  · rw [if_neg z, if_neg z]
    exact ⟨c, j, rfl, hc, Fr.rf, rfl, Int.le_refl _, fun g hg => ⟨by rw [isWordM hg i0 i1, if_neg z], fun _ => rfl, fun y => absurd y z⟩⟩
theorem late_w : (1818326117 : Int) = rs256 9 := by decide +kernel
theorem full_w : (1718971500 : Int) = rs256 8 := by decide +kernel
theorem ckTail {C G c g : hH} {j j' v t cl op y l5 s0 : Int} (hC : Chain B L M n K A V E) (hc : SC n K A V j' C) (hg : SM B L M n K A V E j' G) (hD : DI c g) (fc : Fr lcF c C) (fg : Fr lmF g G) (e8 : C 1 8 = c 1 8) (hj : j + 1 ≤ j') (hv : g 195 3 = v) (hv6 : v < 6)
    (ht : 0 ≤ t ∧ t < g 195 0) (hcl : 0 ≤ cl ∧ cl < g 195 (4 + t)) (hop : op = 60 ∨ op = 61 ∨ op = 62) (cr : ∀ a, 25 ≤ a → a < 34 → C a = c a)
    (G0 : ∀ i, ¬ CkF v i ∨ i = 3 → G 195 i = g 195 i) (G124 : G 195 (124 + v) = op) (G136 : G 195 (136 + v) = y) (w198 : G 198 = g 198)
    (alt : (l5 = 0 ∧ y = -1 ∧ G 195 (130 + v) = s0 ∧ 0 ≤ s0 ∧ s0 ≤ 99) ∨ (l5 = 1 ∧ y = s0 ∧ 0 ≤ s0 ∧ s0 < g 195 (4 + t))) :
    ∃ b b' c' g', fX5_readCheck_b125 C 24 (v * 6) t cl op l5 s0 = some (b, c') ∧ fX12_readCheck_b188 G 192 v t cl = some (b', g') ∧ LO B L M n K A V E j c g b b' c' g' := by
  have hs := hD.2.2.1
  have v0 : 0 ≤ v := by have := hs.2.2.2.1; omega
  have w0 := hs.1
  have wt := hs.2.2.2.2.1 t ht.1 ht.2
  obtain ⟨e4, he, hr1, hr2⟩ : ∃ e4, fX5_readCheck_b125 C 24 (v * 6) t cl op l5 s0 = fX5_readCheck_b223 (hup (hup (hup (hup C 33 (v * 6 + 0) t) 33 (v * 6 + 1) cl) 33 (v * 6 + 2) op) 33 (v * 6 + 3) y) 24 (v * 6) e4 (v * 6 + 4) 33 ∧ (y = -1 → e4 = G 195 (130 + v)) ∧ (y = -1 → 0 ≤ G 195 (130 + v) ∧ G 195 (130 + v) ≤ 99) := by
    have l33 : ∀ x : hH, Lay x → x 25 11 = 33 ∧ x 33 (-1) = 36 ∧ x 24 1 = 25 := fun x hx => ⟨ly_25_11 hx, ll_33 hx, ly_24_1 hx⟩
    have S1 := hc.up25 (a := 33) (b := v * 6 + 0) (v := t) (Or.inr (by omega))
    have S2 := S1.up25 (a := 33) (b := v * 6 + 1) (v := cl) (Or.inr (by omega))
    have S3 := S2.up25 (a := 33) (b := v * 6 + 2) (v := op) (Or.inr (by omega))
    have S4 := S3.up25 (a := 33) (b := v * 6 + 3) (v := y) (Or.inr (by omega))
    unfold fX5_readCheck_b125
    rw [w32_id (x := v * 6 + 0) (by omega) (by omega), w32_id (x := v * 6 + 1) (by omega) (by omega), w32_id (x := v * 6 + 2) (by omega) (by omega), w32_id (x := v * 6 + 3) (by omega) (by omega), (l33 _ hc.1).2.2, (l33 _ hc.1).1, put_in (by omega) (by rw [(l33 _ hc.1).2.1]; omega)]
    simp only [Option.bind_some]
    rw [(l33 _ S1.1).2.2, (l33 _ S1.1).1, put_in (by omega) (by rw [(l33 _ S1.1).2.1]; omega)]
    simp only [Option.bind_some]
    rw [(l33 _ S2.1).2.2, (l33 _ S2.1).1, put_in (by omega) (by rw [(l33 _ S2.1).2.1]; omega)]
    simp only [Option.bind_some]
    rw [(l33 _ S3.1).2.2, (l33 _ S3.1).1]
    unfold fX5_readCheck_b199
    rw [put_in (by omega) (by rw [(l33 _ S3.1).2.1]; omega), put_in (by omega) (by rw [(l33 _ S3.1).2.1]; omega), w32_id (x := v * 6 + 4) (by omega) (by omega)]
    simp only [Option.bind_some]
    rcases alt with ⟨rfl, rfl, a3, a4⟩ | ⟨rfl, rfl, a3, a4⟩
    · rw [if_neg (by omega), if_pos rfl, if_pos rfl, (l33 _ S4.1).2.2, (l33 _ S4.1).1]
      exact ⟨s0, rfl, fun _ => a3.symm, fun _ => by rw [a3]; exact a4⟩
    · rw [if_neg (by omega), if_neg (show ¬ (1 : Int) = 0 by decide), if_neg (show ¬ (1 : Int) = 0 by decide), (l33 _ S4.1).2.2, (l33 _ S4.1).1]
      exact ⟨-1, rfl, fun z => by omega, fun z => by omega⟩
  have hy : -1 ≤ y ∧ y < g 195 (4 + t) := by omega
  rw [he]
  have S0 := hc
  have S1 := S0.up25 (a := 33) (b := v * 6 + 0) (v := t) (Or.inr (by omega))
  have S2 := S1.up25 (a := 33) (b := v * 6 + 1) (v := cl) (Or.inr (by omega))
  have S3 := S2.up25 (a := 33) (b := v * 6 + 2) (v := op) (Or.inr (by omega))
  have S4 := S3.up25 (a := 33) (b := v * 6 + 3) (v := y) (Or.inr (by omega))
  have S5 := S4.up25 (a := 33) (b := v * 6 + 4) (v := e4) (Or.inr (by omega))
  unfold fX5_readCheck_b223
  rw [put_in (by omega) (by rw [ll_33 S4.1]; omega)]
  simp only [Option.bind_some]
  generalize hc5 : hup (hup (hup (hup (hup C 33 (v * 6 + 0) t) 33 (v * 6 + 1) cl) 33 (v * 6 + 2) op) 33 (v * 6 + 3) y) 33 (v * 6 + 4) e4 = c5 at S5 ⊢
  have f5 : Fr lcF C c5 := by rw [← hc5]; exact ((((Fr.up (by unfold lcF; simp; omega)).tr (Fr.up (by unfold lcF; simp; omega))).tr (Fr.up (by unfold lcF; simp; omega))).tr (Fr.up (by unfold lcF; simp; omega))).tr (Fr.up (by unfold lcF; simp; omega))
  obtain ⟨c6, jj, o1, o2, o3, o4, o5, om⟩ := opt2 (g := G) (i := 9) hC S5 (by decide) (by decide)
  rw [ly_24_0 S5.1, ly_24_1 S5.1, ly_25_11 S5.1, show (137 : Int) = 128 + 9 from rfl, o1]
  simp only [Option.bind_some]
  have hcls : ∀ lt, lt = (if K j' = 128 + 9 then (1 : Int) else 0) → (if (if K j' = 128 + 9 then (1 : Int) else 0) = 0 then fX5_readCheck_b254 c6 24 0 (w32 (v * 6 + 5)) 33 else fX5_readCheck_b254 c6 24 1 (w32 (v * 6 + 5)) 33) = fX5_readCheck_b254 c6 24 lt (v * 6 + 5) 33 := fun lt h => by
    rw [w32_id (x := v * 6 + 5) (by omega) (by omega), h]
    by_cases z : K j' = 128 + 9
    · rw [if_pos z, if_neg (by decide)]
    · rw [if_neg z, if_pos rfl]
  generalize hlt : (if K j' = 128 + 9 then (1 : Int) else 0) = lt at *
  have hl01 : lt = 0 ∨ lt = 1 := by
    rw [← hlt]; split <;> omega
  rw [hcls lt rfl]
  have hn := om
  unfold fX5_readCheck_b254
  rw [put_in (by omega) (by rw [ll_33 o2.1]; omega)]
  simp only [Option.bind_some, pput]
  have S7 := o2.up25 (a := 33) (b := v * 6 + 5) (v := lt) (Or.inr (by omega))
  have c63 : c6 25 3 = v := by rw [tkF_row o3 (by decide), ← hc5, hup_off (by decide), hup_off (by decide), hup_off (by decide), hup_off (by decide), hup_off (by decide), cr 25 (by decide) (by decide), hD.2.1.1.2.2.2]; exact hv
  rw [ly_24_1 S7.1, hup_off (a := 25) (by decide), c63, w32_id (x := v + 1) (by omega) (by omega)]
  have S8 := S7.up25 (a := 25) (b := 3) (v := v + 1) (Or.inl (by omega))
  generalize hz : hup (hup c6 33 (v * 6 + 5) lt) 25 3 (v + 1) = z at S8 ⊢
  have fz : Fr lcF c z := fc.tr (f5.tr ((o3.mono (fun a b z => tk_lc z)).tr (by rw [← hz]; exact (Fr.up (by unfold lcF; simp; omega)).tr (Fr.up (by decide)))))
  have z8 : z 1 8 = c 1 8 := by rw [← hz, hup_off (by decide), hup_off (by decide), o4, ← hc5, hup_off (by decide), hup_off (by decide), hup_off (by decide), hup_off (by decide), hup_off (by decide)]; exact e8
  -- the model
  have U1 := hg.up195 (b := 112 + v) (v := t) (by omega)
  have U2 := U1.up195 (b := 118 + v) (v := cl) (by omega)
  have U3 := U2.up195 (b := 142 + v) (v := lt) (by omega)
  unfold fX12_readCheck_b188
  rw [w32_id (x := 112 + v) (by omega) (by omega), w32_id (x := 118 + v) (by omega) (by omega), w32_id (x := 142 + v) (by omega) (by omega), put195 hg.1.1 (by omega) (by omega)]
  simp only [Option.bind_some]
  rw [put195 U1.1.1 (by omega) (by omega)]
  simp only [Option.bind_some]
  rw [late_w, (hn _ U2).1]
  simp only [Option.bind_some]
  have hmod : (if lt = 0 then fX12_readCheck_b232 (hup (hup G 195 (112 + v) t) 195 (118 + v) cl) 192 0 (142 + v) (hup (hup G 195 (112 + v) t) 195 (118 + v) cl 192 7) else fX12_readCheck_b232 (hup (hup G 195 (112 + v) t) 195 (118 + v) cl) 192 1 (142 + v) (hup (hup G 195 (112 + v) t) 195 (118 + v) cl 192 7)) = fX12_readCheck_b232 (hup (hup G 195 (112 + v) t) 195 (118 + v) cl) 192 lt (142 + v) (hup (hup G 195 (112 + v) t) 195 (118 + v) cl 192 7) := by
    rcases hl01 with y | y
    · rw [if_pos y, y]
    · rw [if_neg (by omega), y]
  rw [hmod]
  unfold fX12_readCheck_b232
  rw [put195 U2.1.1 (by omega) (by omega)]
  simp only [Option.bind_some]
  rw [late_w, (hn _ U3).1]
  simp only [Option.bind_some]
  generalize hg3 : hup (hup (hup G 195 (112 + v) t) 195 (118 + v) cl) 195 (142 + v) lt = g3 at U3 ⊢
  have fg3 : Fr lmF g g3 := fg.tr (by rw [← hg3]; exact ((Fr.up (by unfold lmF; simp; omega)).tr (Fr.up (by unfold lmF; simp; omega))).tr (Fr.up (by unfold lmF; simp; omega)))
  obtain ⟨g4, q1, q2, q3⟩ : ∃ g4, (if lt = 0 then fX12_readCheck_b247 g3 192 else (fX12_next g3 192).bind fun h244 => fX12_readCheck_b247 h244 192) = fX12_readCheck_b247 g4 192 ∧ SM B L M n K A V E jj g4 ∧ Fr nxC g3 g4 := by
    obtain ⟨-, n1, n2⟩ := hn _ U3
    by_cases y : K j' = 128 + 9
    · obtain ⟨g4, m1, m2, m3⟩ := n2 y
      rw [if_pos y] at hlt
      refine ⟨g4, ?_, m2, m3⟩
      rw [← hlt, if_neg (by decide), m1]
      rfl
    · rw [if_neg y] at hlt
      refine ⟨g3, by rw [← hlt, if_pos rfl], by rw [n1 y]; exact U3, Fr.rf⟩
  rw [q1]
  unfold fX12_readCheck_b247
  have g195 : g4 195 = g3 195 := txF_row (q3.mono (fun a b z => nx_tx z)) (by decide)
  have G3 : G 195 3 = v := by rw [G0 3 (Or.inr rfl)]; exact hv
  have g43 : g4 195 3 = v := by rw [g195, ← hg3, hup_ne (by omega), hup_ne (by omega), hup_ne (by omega)]; exact G3
  rw [row195 q2.1.1 (by decide) (by decide), g43]
  simp only [Option.bind_some]
  rw [put195 q2.1.1 (by decide) (by decide), w32_id (x := v + 1) (by omega) (by omega)]
  simp only [Option.bind_some]
  have U5 := q2.up195 (b := 3) (v := v + 1) (by decide)
  generalize hw : hup g4 195 3 (v + 1) = w at U5 ⊢
  have fw : Fr lmF g w := fg3.tr ((q3.mono (fun a b z => tx_lm (nx_tx z))).tr (by rw [← hw]; exact Fr.up (by decide)))
  have w195 : ∀ i, w 195 i = if i = 3 then v + 1 else if i = 142 + v then lt else if i = 118 + v then cl else if i = 112 + v then t else G 195 i := fun i => by
    rw [← hw, hup_row, g195, ← hg3, hup_row, hup_row, hup_row]
    rfl
  have z33 : ∀ i, z 33 i = if i = v * 6 + 5 then lt else if i = v * 6 + 4 then e4 else if i = v * 6 + 3 then y else if i = v * 6 + 2 then op else if i = v * 6 + 1 then cl else if i = v * 6 + 0 then t else c 33 i := fun i => by
    rw [← hz, hup_off (by decide), hup_row, tkF_row o3 (by decide), ← hc5, hup_row, hup_row, hup_row, hup_row, hup_row, cr 33 (by decide) (by decide)]
    rfl
  have z25 : ∀ i, i ≠ 3 → z 25 i = c 25 i := fun i hi => by
    rw [← hz, hup_ne (fun y => hi y.2), hup_off (by decide), tkF_row o3 (by decide), ← hc5, hup_off (by decide), hup_off (by decide), hup_off (by decide), hup_off (by decide), hup_off (by decide), cr 25 (by decide) (by decide)]
  refine ⟨1, 1, z, w, rfl, rfl, fz, fw, Or.inr ⟨rfl, jj, S8, by omega, z8, Or.inl ⟨rfl, U5, ?_⟩⟩⟩
  refine ckDraft (t := t) (cl := cl) (op := op) (y := y) (e4 := e4) (lt := lt) hD hv hv6 S8.1 ht hcl hop hy hl01 (by rw [w195, if_pos rfl]) (by rw [w195, if_neg (by omega), if_neg (by omega), if_neg (by omega), if_pos rfl]) (by rw [w195, if_neg (by omega), if_neg (by omega), if_pos rfl]) ?_ ?_ (by rw [w195, if_neg (by omega), if_pos rfl]) ?_ ?_ (fun i hi => ?_) ?_ z33 z25 (by rw [← hz, hup_at]) (fun a ha hn => ?_)
  · rw [w195, if_neg (by omega), if_neg (by omega), if_neg (by omega), if_neg (by omega)]; exact G124
  · rw [w195, if_neg (by omega), if_neg (by omega), if_neg (by omega), if_neg (by omega)]; exact G136
  · rw [w195, if_neg (by omega), if_neg (by omega), if_neg (by omega), if_neg (by omega)]; exact hr1
  · rw [w195, if_neg (by omega), if_neg (by omega), if_neg (by omega), if_neg (by omega)]; exact hr2
  · have hi' := hi
    unfold CkF at hi'
    rw [w195, if_neg (by omega), if_neg (by omega), if_neg (by omega), if_neg (by omega)]
    exact G0 i (Or.inl hi)
  · rw [← hw, hup_off (by decide), txF_row (q3.mono (fun a b z => nx_tx z)) (by decide), ← hg3, hup_off (by decide), hup_off (by decide), hup_off (by decide)]; exact w198
  · rw [← hz, hup_off (by omega), hup_off hn, tkF_row o3 (by omega), ← hc5, hup_off hn, hup_off hn, hup_off hn, hup_off hn, hup_off hn]
    exact cr a (by omega) (by omega)
theorem b125_no {C : hH} {a b c d e : Int} : fX5_readCheck_b125 C 24 a b c d e (-1) = some (0, C) := by
  unfold fX5_readCheck_b125
  rw [if_pos rfl]
theorem readCheck2 {c g : hH} {j : Int} (hC : Chain B L M n K A V E) (hc : SC n K A V j c) (hg : SM B L M n K A V E j g) (hD : DI c g) (hk : K j = 140) (h6 : g 195 3 < 6) : ∃ b b' c' g', fX5_readCheck c 24 = some (b, c') ∧ fX12_readCheck g 192 = some (b', g') ∧ LO B L M n K A V E j c g b b' c' g' := by
  have hs := hD.2.2.1
  have v0 := hs.2.2.2.1.1
  have n1 := nx_s hC hc.2.2.2.2 (by omega) (by omega)
  obtain ⟨c1, k1, k2, k3, k4, -⟩ := stepC hC hc
  obtain ⟨g1, m1, m2, m3⟩ := nextM hC hg
  have fg1 : Fr txF g g1 := m3.mono (fun a b z => nx_tx z)
  have e195 : g1 195 = g 195 := txF_row fg1 (by decide)
  have hD1 : DI c1 g1 := hD.sc (k3.mono (fun a b z => tk_sc z)) (fg1.mono (fun a b z => tx_sm z))
  obtain ⟨x, b1, c2, g2, h1, h2, h3⟩ := tableS hC k2 m2 hD1
  have c13 : c1 25 3 = g 195 3 := by rw [tkF_row k3 (by decide)]; exact hD.2.1.1.2.2.2
  unfold fX5_readCheck fX12_readCheck
  rw [row195 hg.1.1 (by decide) (by decide), m1, ly_24_0 hc.1, k1]
  simp only [Option.bind_some]
  rw [ly_24_0 k2.1, ly_24_1 k2.1, h1, h2, c13]
  simp only [Option.bind_some]
  generalize hv : g 195 3 = v at *
  rw [w32_id (x := v * 6) (by omega) (by omega)]
  rcases h3 with ⟨rfl, rfl, ⟨f, fc, fg⟩⟩ | ⟨hx, rfl, e19, S1, S2, fc, fg, e8⟩
  · rw [if_pos rfl, if_pos rfl]
    unfold fX5_readCheck_b52 fX5_readCheck_b69
    rw [if_pos rfl, if_pos rfl]
    exact ⟨0, 0, c2, g2, rfl, rfl, (k3.tr fc).mono (fun a b z => tk_lc z), (fg1.tr fg).mono (fun a b z => tx_lm z), Or.inl ⟨rfl, rfl, f⟩⟩
  rw [e195] at hx
  have hw := hs.2.2.2.2.1 x hx.1 hx.2
  have h4 := hs.1
  have hD2 : DI c2 g2 := hD1.sc (fc.mono (fun a b z => tk_sc z)) (fg.mono (fun a b z => tx_sm z))
  have e195' : g2 195 = g 195 := by rw [txF_row fg (by decide)]; exact e195
  obtain ⟨w1', w2'⟩ := colFrom hx.1 (show x < 4 by omega)
  obtain ⟨y, b2, c3, g3, o1, o2, o3⟩ := colS hC S1 S2 hD2 hx.1 (by rw [e195']; exact hx.2)
  rw [if_neg (show ¬ x = -1 by omega), if_neg (show ¬ (1 : Int) = 0 by decide), e19, ly_24_0 S1.1, ly_24_1 S1.1, o1]
  simp only [Option.bind_some]
  rw [o2]
  simp only [Option.bind_some]
  unfold fX5_readCheck_b52
  rcases o3 with ⟨rfl, rfl, ⟨f, fc3, fg3⟩⟩ | ⟨hy, rfl, e3, S3, U3, fc3, fg3, e83⟩
  · rw [if_pos rfl, if_pos rfl]
    unfold fX5_readCheck_b69
    rw [if_pos rfl]
    exact ⟨0, 0, c3, g3, rfl, rfl, (k3.tr (fc.tr fc3)).mono (fun a b z => tk_lc z), (fg1.tr (fg.tr fg3)).mono (fun a b z => tx_lm z), Or.inl ⟨rfl, rfl, f⟩⟩
  rw [e195'] at hy
  have fcc : Fr tkF c c3 := k3.tr (fc.tr fc3)
  have fgg : Fr txF g g3 := fg1.tr (fg.tr fg3)
  have e195'' : g3 195 = g 195 := txF_row fgg (by decide)
  have e8c : c3 1 8 = c 1 8 := by rw [e83, e8]; exact k4
  generalize hj3 : nx n (nx n (nx n j)) = j3 at S3 U3
  have hjj : j + 1 ≤ j3 := by
    have := @nx_le n (nx n j)
    have := @nx_le n (nx n (nx n j))
    omega
  rw [if_neg (show ¬ y = -1 by omega), if_neg (show ¬ (1 : Int) = 0 by decide), e3, ly_24_0 S3.1]
  obtain ⟨op, c4, p1, p2, p3⟩ := cmp2 hC S3
  rw [p1]
  simp only [Option.bind_some]
  have tok := U3.tok
  unfold fX5_readCheck_b69 fX12_readCheck_b62
  obtain ⟨gb, q1, q2, q3⟩ := badM (k := 1) U3
  rw [q1, isIn_ok]
  simp only [Option.bind_some]
  rcases p3 with ⟨rfl, hn, fl⟩ | ⟨rfl, hop, S4, e84⟩
  · rw [if_pos rfl]
    refine ⟨0, 0, c4, gb, rfl, ?_, (fcc.tr p2).mono (fun a b z => tk_lc z), (fgg.tr q3).mono (fun a b z => tx_lm z), Or.inl ⟨rfl, rfl, 1, A j3, fl, q2, by decide⟩⟩
    by_cases s : sgn (K j3)
    · rw [if_pos (tok.2.2.2.1.mpr s), tok.2.2.2.2.1 s, if_neg hn, if_pos rfl]
    · rw [if_neg (fun z => s (tok.2.2.2.1.mp z))]
  have hsg : sgn (K j3) := by unfold sgn; omega
  rw [if_neg (show ¬ K j3 = -1 by omega), if_pos (tok.2.2.2.1.mpr hsg), tok.2.2.2.2.1 hsg, if_pos hop, if_neg (show ¬ (1 : Int) = 0 by decide), w32_id (x := 124 + v) (by omega) (by omega), w32_id (x := 136 + v) (by omega) (by omega), w32_id (x := 130 + v) (by omega) (by omega), put195 U3.1.1 (by omega) (by omega)]
  simp only [Option.bind_some]
  generalize hopv : K j3 = op at *
  have V1 := U3.up195 (b := 124 + v) (v := op) (by omega)
  obtain ⟨g5, r1, r2, r3⟩ := nextM hC V1
  rw [r1]
  simp only [Option.bind_some]
  rw [put195 r2.1.1 (by omega) (by omega)]
  simp only [Option.bind_some]
  have V2 := r2.up195 (b := 136 + v) (v := -1) (by omega)
  generalize hg6 : hup g5 195 (136 + v) (-1) = g6 at V2 ⊢
  have fg6 : Fr lmF g g6 := (fgg.mono (fun a b z => tx_lm z)).tr ((Fr.up (by unfold lmF; simp; omega)).tr ((r3.mono (fun a b z => tx_lm (nx_tx z))).tr (by rw [← hg6]; exact Fr.up (by unfold lmF; simp; omega))))
  have g6w : ∀ i, g6 195 i = if i = 136 + v then -1 else if i = 124 + v then op else g 195 i := fun i => by
    rw [← hg6, hup_row, txF_row (r3.mono (fun a b z => nx_tx z)) (by decide), hup_row, e195'']
    rfl
  have g6n : g6 198 = g 198 := by rw [← hg6, hup_off (by decide), txF_row (r3.mono (fun a b z => nx_tx z)) (by decide), hup_off (by decide)]; exact txF_row fgg (by decide)
  have tok6 := V2.tok
  have fc4 : Fr tkF c c4 := fcc.tr p2
  have hD4 : DR c4 g6 25 20 (g 195) := hD.per (Or.inr rfl) (fun a a0 a1 => tkF_row fc4 (by omega)) g6n
  have e8d : c4 1 8 = c 1 8 := by rw [e84]; exact e8c
  have hj4 : j + 1 ≤ nx n j3 := by have := @nx_le n j3; omega
  generalize hj4' : nx n j3 = j4 at *
  rw [ly_24_0 S4.1, S4.k]
  unfold fX5_readCheck_b95
  rw [if_neg (show ¬ (1 : Int) = 0 by decide), if_pos (show (0 : Int) = 0 by rfl), ly_24_0 S4.1, ly_24_1 S4.1]
  have tailM : ∀ i, (¬ CkF v i ∨ i = 3) → i ≠ 136 + v ∧ i ≠ 124 + v ∧ i ≠ 130 + v := fun i hi => by
    unfold CkF at hi
    omega
  by_cases z3 : K j4 = 3
  · -- a number
    rw [if_neg (show ¬ K j4 = 4 by omega), if_pos (tok6.2.1.mpr z3)]
    obtain ⟨s0, b4, c7, g7, t1, t2, t3⟩ := takeNumber2 hC S4 V2
    rw [t1, t2]
    simp only [Option.bind_some]
    rcases t3 with ⟨rfl, rfl, ⟨f, fc7, fg7⟩⟩ | ⟨hn, rfl, e19', S7, V7, fc7, fg7, e87⟩
    · rw [b125_no, if_pos rfl]
      exact ⟨0, 0, c7, g7, rfl, rfl, (fc4.tr fc7).mono (fun a b z => tk_lc z), fg6.tr (fg7.mono (fun a b z => tx_lm z)), Or.inl ⟨rfl, rfl, f⟩⟩
    · rw [if_neg (show ¬ (1 : Int) = 0 by decide), e19', put195 V7.1.1 (by omega) (by omega)]
      simp only [Option.bind_some]
      have V8 := V7.up195 (b := 130 + v) (v := s0) (by omega)
      have w8 : ∀ i, hup g7 195 (130 + v) s0 195 i = if i = 130 + v then s0 else if i = 136 + v then -1 else if i = 124 + v then op else g 195 i := fun i => by
        rw [hup_row, txF_row fg7 (by decide)]
        unfold up1
        rw [g6w]
      exact ckTail (l5 := 0) (y := -1) (s0 := s0) hC S7 V8 hD ((fc4.tr fc7).mono (fun a b z => tk_lc z)) (fg6.tr ((fg7.mono (fun a b z => tx_lm z)).tr (Fr.up (by unfold lmF; simp; omega)))) (by rw [e87]; exact e8d) (by have := @nx_le n j4; omega) hv h6 hx hy (by omega) (fun a a0 a1 => tkF_row (fc4.tr fc7) (by omega)) (fun i hi => by
        obtain ⟨i1, i2, i3⟩ := tailM i hi
        rw [w8, if_neg i3, if_neg i1, if_neg i2]) (by rw [w8, if_neg (by omega), if_neg (by omega), if_pos rfl]) (by rw [w8, if_neg (by omega), if_pos rfl]) (by rw [hup_off (by decide), txF_row fg7 (by decide)]; exact g6n) (Or.inl ⟨rfl, rfl, by rw [w8, if_pos rfl], hn.1, hn.2⟩)
  · rw [if_neg (show ¬ g6 192 12 = 2 from fun z => z3 (tok6.2.1.mp z)), w2', row195 V2.1.1 (by omega) (by omega), g6w, if_neg (show ¬ 4 + x = 136 + v by omega), if_neg (show ¬ 4 + x = 124 + v by omega), w1']
    simp only [Option.bind_some]
    obtain ⟨s0, b4, c7, g7, t1, t2, t3⟩ := colLook2 (u := y) S4 V2 hD4 hx.1 hx.2 (by omega)
    rw [t2]
    simp only [Option.bind_some]
    by_cases z4 : K j4 = 4
    · rw [if_pos z4]
      unfold fX9_takeCol
      rw [t1]
      simp only [Option.bind_some]
      rcases t3 with ⟨rfl, rfl, ⟨f, fc7, fg7⟩⟩ | ⟨rfl, rfl, _, eu, f, fc7, fg7, V7⟩ | ⟨hn, hne, rfl, e7, rfl, V7, fg7, -⟩
      · rw [if_pos rfl, if_pos rfl]
        simp only [Option.bind_some]
        rw [b125_no]
        exact ⟨0, 0, c7, g7, rfl, rfl, (fc4.tr fc7).mono (fun a b z => tk_lc z), fg6.tr (fg7.mono (fun a b z => tx_lm z)), Or.inl ⟨rfl, rfl, f⟩⟩
      · obtain ⟨g8, s1, s2, s3⟩ := badM (k := 3) V7
        rw [if_pos rfl, if_neg (show ¬ (1 : Int) = 0 by decide), eu, if_pos rfl, s1]
        simp only [Option.bind_some]
        rw [b125_no]
        exact ⟨0, 0, c7, g8, rfl, rfl, (fc4.tr fc7).mono (fun a b z => tk_lc z), fg6.tr ((fg7.tr s3).mono (fun a b z => tx_lm z)), Or.inl ⟨rfl, rfl, 3, A j4, f, s2, by decide⟩⟩
      · obtain ⟨c8, s1, s2, s3, s4, -⟩ := stepC hC S4
        rw [if_neg (show ¬ s0 = -1 by omega), if_neg (show ¬ (1 : Int) = 0 by decide), e7, if_neg hne, s1, put195 V7.1.1 (by omega) (by omega)]
        simp only [Option.bind_some]
        have V8 := V7.up195 (b := 136 + v) (v := s0) (by omega)
        obtain ⟨g9, u1, u2, u3⟩ := nextM hC V8
        rw [u1]
        simp only [Option.bind_some]
        have w9 : ∀ i, g9 195 i = if i = 136 + v then s0 else if i = 124 + v then op else g 195 i := fun i => by
          rw [txF_row (u3.mono (fun a b z => nx_tx z)) (by decide), hup_row, txF_row fg7 (by decide)]
          unfold up1
          rw [g6w]
          by_cases e : i = 136 + v
          · rw [if_pos e, if_pos e]
          · rw [if_neg e, if_neg e, if_neg e]
        exact ckTail (l5 := 1) (y := s0) (s0 := s0) hC s2 u2 hD ((fc4.tr s3).mono (fun a b z => tk_lc z)) (fg6.tr ((fg7.mono (fun a b z => tx_lm z)).tr ((Fr.up (by unfold lmF; simp; omega)).tr (u3.mono (fun a b z => tx_lm (nx_tx z)))))) (by rw [s4]; exact e8d) (by have := @nx_le n j4; omega) hv h6 hx hy (by omega) (fun a a0 a1 => tkF_row (fc4.tr s3) (by omega)) (fun i hi => by
          obtain ⟨i1, i2, i3⟩ := tailM i hi
          rw [w9, if_neg i1, if_neg i2]) (by rw [w9, if_neg (by omega), if_pos rfl]) (by rw [w9, if_pos rfl]) (by rw [txF_row (u3.mono (fun a b z => nx_tx z)) (by decide), hup_off (by decide), txF_row fg7 (by decide)]; exact g6n) (Or.inr ⟨rfl, rfl, hn⟩)
    · rw [if_neg z4]
      obtain ⟨b5, g8, y1, y2, y3⟩ := looks_m (from_ := 20 + 4 + 4 * x) (m := g 195 (4 + x)) V2 (-1) (fun z => absurd z z4)
      have := t2.symm.trans y1
      have e1 : b4 = b5 ∧ g7 = g8 := by injection this with h; injection h with a b; exact ⟨a, b⟩
      obtain ⟨rfl, rfl⟩ := e1
      rcases y3 with ⟨-, rfl, f⟩ | ⟨z, -⟩ | ⟨z, -⟩
      · obtain ⟨c8, s1, s2, s3⟩ := failC (k := 1) S4
        unfold fX9_takeNumber
        rw [S4.k, if_neg z3, s1]
        simp only [Option.bind_some]
        rw [b125_no, if_true]
        exact ⟨0, 0, c8, g7, rfl, rfl, (fc4.tr s3).mono (fun a b z => tk_lc z), fg6.tr (y2.mono (fun a b z => tx_lm z)), Or.inl ⟨rfl, rfl, 1, A j4, s2, f, by decide⟩⟩
      · exact absurd z z4
      · exact absurd z z4
end SIM
