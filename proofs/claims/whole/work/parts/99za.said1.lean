/-! WHAT MAY BE SAID: plain ONES of a row -/
def fldP (p t : Int) : Int := iadD (iusD p (3 * t)) 7
theorem fld_tab : ∀ a b c d : Fin 5, ∀ t : Fin 4, let p : Int := (a.1 : Int) + 8 * (b.1 : Int) + 64 * (c.1 : Int) + 512 * (d.1 : Int); 0 ≤ iadD (iusD p (3 * (t.1 : Int))) 7 ∧ iadD (iusD p (3 * (t.1 : Int))) 7 ≤ 4 ∧ isrD p (3 * (t.1 : Int)) = iusD p (3 * (t.1 : Int)) := by decide +kernel
theorem fld_ok {p t : Int} (hp : PkOk p) (t0 : 0 ≤ t) (t1 : t < 4) : (0 ≤ fldP p t ∧ fldP p t ≤ 4) ∧ isrD p (3 * t) = iusD p (3 * t) := by
  obtain ⟨a, b, c, d, ha, hb, hc, hd, rfl⟩ := hp
  have := fld_tab ⟨a.toNat, by omega⟩ ⟨b.toNat, by omega⟩ ⟨c.toNat, by omega⟩ ⟨d.toNat, by omega⟩ ⟨t.toNat, by omega⟩
  dsimp only at this
  rw [show ((a.toNat : Nat) : Int) = a by omega, show ((b.toNat : Nat) : Int) = b by omega, show ((c.toNat : Nat) : Int) = c by omega, show ((d.toNat : Nat) : Int) = d by omega, show ((t.toNat : Nat) : Int) = t by omega] at this
  exact ⟨⟨this.1, this.2.1⟩, this.2.2⟩
def bareS (S : Int → Int) (q : Int) : Prop := ∃ c, 0 ≤ c ∧ c < S (4 + S (249 + q)) ∧ S (348 + (4 * q + c)) < 0
def brokS (S : Int → Int) (q : Int) : Prop := ∃ (i : Nat) (v : CT), (vioL S 1)[i]? = some v ∧ v.2.2 = q
def fieldS (S : Int → Int) (x : CT) (q : Int) : Prop := 0 ≤ fldP (x.1 - 100) (S (249 + q)) - 1 ∧ 0 ≤ S (348 + (4 * q + (fldP (x.1 - 100) (S (249 + q)) - 1))) ∧ soS x.2.1 (S (348 + (4 * q + (fldP (x.1 - 100) (S (249 + q)) - 1)))) x.2.2
def leafS (S : Int → Int) (x : CT) (q : Int) : Prop := if x.1 = 0 then bareS S q else if x.1 = 1 then 0 < refdS S q else if x.1 = 2 then brokS S q else if x.1 = 3 then S (249 + q) = x.2.2 else if x.1 = 4 then soS x.2.1 q x.2.2 else fieldS S x q
theorem leafS_0 {S : Int → Int} {x : CT} {q : Int} (z : x.1 = 0) : leafS S x q = bareS S q := by unfold leafS; rw [if_pos z]
theorem leafS_1 {S : Int → Int} {x : CT} {q : Int} (z : x.1 = 1) : leafS S x q = (0 < refdS S q) := by unfold leafS; rw [if_neg (by omega), if_pos z]
theorem leafS_2 {S : Int → Int} {x : CT} {q : Int} (z : x.1 = 2) : leafS S x q = brokS S q := by unfold leafS; rw [if_neg (by omega), if_neg (by omega), if_pos z]
theorem leafS_3 {S : Int → Int} {x : CT} {q : Int} (z : x.1 = 3) : leafS S x q = (S (249 + q) = x.2.2) := by unfold leafS; rw [if_neg (by omega), if_neg (by omega), if_neg (by omega), if_pos z]
theorem leafS_4 {S : Int → Int} {x : CT} {q : Int} (z : x.1 = 4) : leafS S x q = soS x.2.1 q x.2.2 := by unfold leafS; rw [if_neg (by omega), if_neg (by omega), if_neg (by omega), if_neg (by omega), if_pos z]
theorem leafS_5 {S : Int → Int} {x : CT} {q : Int} (z : 100 ≤ x.1) : leafS S x q = fieldS S x q := by unfold leafS; rw [if_neg (by omega), if_neg (by omega), if_neg (by omega), if_neg (by omega), if_neg (by omega)]
/-- the class's -/
theorem bareC_ok {h : hH} {S : Int → Int} (hc : Ctx4 h 14 4 S) (hs : SOk S) (hv : SVal S) {i : Int} (i0 : 0 ≤ i) (i1 : i < h 14 0) : ∃ b, fX6_isBare h 4 14 i = some b ∧ Bt b (bareS S (h 15 i)) := by
  obtain ⟨hA, hR, hPA, hP⟩ := hc
  have n40 : h 14 0 ≤ 40 := hR.2.1
  obtain ⟨m0, m1, m2, m3, m4⟩ := hR.2.2.1 i i0 i1
  rw [show (14 : Int) + 1 = 15 from rfl] at m0 m1 m2 m3 m4
  generalize h 15 i = q at m0 m1 m2 m3 m4
  obtain ⟨⟨t0, t1⟩, hcell⟩ := hv q m0 m1 m2
  have hw := hs.2.2.2.2.1 _ t0 t1
  have htab : fX3_tableAt h 14 i = some (S (249 + q)) := by rw [tableAt_in hA n40 i0 i1, m3]
  have hwd : fX4_width h 4 (S (249 + q)) = some (S (4 + S (249 + q))) := by rw [width_ok hPA hP hs, if_pos ⟨t0, t1⟩]
  unfold fX6_isBare
  rcases lpO_find (f := fX6_isBare_s2 h 4 14 i) (fun c => c) (S (4 + S (249 + q))) (fun c => S (348 + (4 * q + c)) < 0) (fun _ => (1 : Int)) 0 (fun c c0 c1 => by
    unfold fX6_isBare_s2
    rw [htab]
    simp only [Option.bind_some]
    rw [hwd]
    simp only [Option.bind_some]
    rw [if_pos c1, value_in hA i0 (by omega) c0 (by omega), m4 c c0 (by omega)]
    simp only [Option.bind_some]
    have := (hcell c c0 (by omega)).1
    rw [w1 (by omega) (by omega)]
    exact ⟨fun z => by rw [if_pos (by omega)], fun z => by rw [if_neg (by omega)]⟩) (by
    unfold fX6_isBare_s2
    rw [htab]
    simp only [Option.bind_some]
    rw [hwd]
    simp only [Option.bind_some]
    rw [if_neg (Int.lt_irrefl _)]) (i := 0) (Int.le_refl _) (by omega) with ⟨c, c0, c1, c2, -, c3⟩ | ⟨c1, c2⟩
  · exact ⟨1, c3, Or.inl ⟨rfl, c, c0, c1, c2⟩⟩
  · exact ⟨0, c2, Or.inr ⟨rfl, fun ⟨c, x0, x1, x2⟩ => c1 c x0 x1 x2⟩⟩
theorem tells_ok2 {h : hH} {S : Int → Int} (hA : VioAt h 57) (hV : VioC h 57 (vioL S 1)) (hs : SOk S) (hl : (vioL S 1).length ≤ 880) (q : Int) : ∃ b, fX10_tellsOf h 57 q = some b ∧ Bt b (brokS S q) := by
  have hr := vioL_rng (S := S) (late := 1) hs
  unfold brokS
  generalize vioL S 1 = W at hV hl hr ⊢
  have at_ : ∀ k, 0 ≤ k → k < (W.length : Int) → ∃ v, W[k.toNat]? = some v ∧ fX11_at h (h 57 1) k = some (pk v) ∧ iadD (pk v) 255 = v.2.2 := fun k k0 k1 => by
    have hk : k.toNat < W.length := by omega
    have hv : W[k.toNat]? = some W[k.toNat] := List.getElem?_eq_getElem hk
    refine ⟨_, hv, ?_, (pk_dec (hr _ (List.getElem_mem hk))).2.2⟩
    have := hV.2 _ _ hv
    rw [show ((k.toNat : Nat) : Int) = k by omega] at this
    rw [hA.1, at_in k0 (by rw [hA.2]; omega), this]
  unfold fX10_tellsOf
  rcases lpO_find (f := fX10_tellsOf_s2 h 57 q) (fun k => k) (W.length : Int) (fun k => ∃ v, W[k.toNat]? = some v ∧ v.2.2 = q) (fun _ => (1 : Int)) 0 (fun k k0 k1 => by
    obtain ⟨v, v1, v2, v3⟩ := at_ k k0 k1
    unfold fX10_tellsOf_s2
    rw [hV.1, if_pos k1, v2]
    simp only [Option.bind_some]
    rw [v3, w1 (by omega) (by omega)]
    refine ⟨fun ⟨u, u1, u2⟩ => ?_, fun z => ?_⟩
    · rw [v1] at u1
      injection u1 with u1
      rw [if_pos (by rw [u1]; exact u2)]
    · rw [if_neg (fun y => z ⟨v, v1, y⟩)]) (by
    unfold fX10_tellsOf_s2
    rw [hV.1, if_neg (Int.lt_irrefl _)]) (i := 0) (Int.le_refl _) (by omega) with ⟨k, k0, k1, ⟨v, v1, v2⟩, -, k3⟩ | ⟨k1, k2⟩
  · exact ⟨1, k3, Or.inl ⟨rfl, _, v, v1, v2⟩⟩
  · refine ⟨0, k2, Or.inr ⟨rfl, fun ⟨i, v, v1, v2⟩ => ?_⟩⟩
    have hi := (List.getElem?_eq_some_iff.mp v1).1
    exact k1 (i : Int) (by omega) (by omega) ⟨v, by rw [show ((i : Int)).toNat = i by omega]; exact v1, v2⟩
theorem Bt.of {x : Int} {P : Prop} (h1 : x = 0 ∨ x = 1) (h2 : x = 1 ↔ P) : Bt x P := by
  rcases h1 with rfl | rfl
  · exact Or.inr ⟨rfl, fun z => by have := h2.mpr z; omega⟩
  · exact Or.inl ⟨rfl, h2.mp rfl⟩
theorem leafC_ok {h : hH} {S : Int → Int} {x : CT} {k i : Int} (hL : Lay h) (hc : Ctx4 h 14 4 S) (hs : SOk S) (hv : SVal S) (hV : VioC h 57 (vioL S 1)) (hl : (vioL S 1).length ≤ 880) (hx : LeafOk x) (k0 : 0 ≤ k) (k1 : k < 40) (e1 : h 23 (3 * k) = (clsT x).1) (e2 : h 23 (3 * k + 1) = (clsT x).2.1) (e3 : h 23 (3 * k + 2) = (clsT x).2.2) (i0 : 0 ≤ i) (i1 : i < h 14 0) : ∃ b, fX6_holdsOne h 22 4 14 i 57 k = some b ∧ Bt b (leafS S x (h 15 i)) := by
  have n40 : h 14 0 ≤ 40 := hc.2.1.2.1
  obtain ⟨m0, m1, m2, m3, m4⟩ := hc.2.1.2.2.1 i i0 i1
  rw [show (14 : Int) + 1 = 15 from rfl] at m0 m1 m2 m3 m4
  have htab : fX3_tableAt h 14 i = some (S (249 + h 15 i)) := by rw [tableAt_in hc.1 n40 i0 i1, m3]
  have hnum : fX3_numberAt h 14 i = some (h 15 i) := numberAt_in hc.1 n40 i0 i1
  have a1 : fX11_at h 23 (3 * k) = some (clsT x).1 := by rw [at_in (by omega) (by rw [ll_23 hL]; omega), e1]
  have a2 : fX11_at h 23 (3 * k + 1) = some (clsT x).2.1 := by rw [at_in (by omega) (by rw [ll_23 hL]; omega), e2]
  have a3 : fX11_at h 23 (3 * k + 2) = some (clsT x).2.2 := by rw [at_in (by omega) (by rw [ll_23 hL]; omega), e3]
  unfold fX6_holdsOne
  rw [ly_22_3 hL, w32_id (x := 3 * k) (by omega) (by omega), w32_id (x := 3 * k + 1) (by omega) (by omega), w32_id (x := 3 * k + 2) (by omega) (by omega), a1, a2, a3, htab]
  simp only [Option.bind_some]
  rcases hx with (z | z | z | z) | ⟨z, hsg, hnm⟩
  · have ec : (clsT x).1 = 152 := by unfold clsT cA; rw [if_neg (by omega)]; dsimp only; rw [if_pos (by omega), z]; rfl
    obtain ⟨b, b1, b2⟩ := bareC_ok hc hs hv i0 i1
    rw [ec, if_pos rfl, leafS_0 z, b1]
    exact ⟨b, rfl, b2⟩
  · have ec : (clsT x).1 = 153 := by unfold clsT cA; rw [if_neg (by omega)]; dsimp only; rw [if_pos (by omega), z]; rfl
    rw [ec, if_neg (by decide), if_pos rfl, leafS_1 z, referring_ok hc hs hv i0 i1]
    simp only [Option.bind_some]
    by_cases y : 0 < refdS S (h (14 + 1) i)
    · rw [if_pos y]; exact ⟨1, rfl, Or.inl ⟨rfl, y⟩⟩
    · rw [if_neg y]; exact ⟨0, rfl, Or.inr ⟨rfl, y⟩⟩
  · have ec : (clsT x).1 = 154 := by unfold clsT cA; rw [if_neg (by omega)]; dsimp only; rw [if_pos (by omega), z]; rfl
    obtain ⟨b, b1, b2⟩ := tells_ok2 (vioAt57 hL) hV hs hl (h 15 i)
    rw [ec, if_neg (by decide), if_neg (by decide), if_pos rfl, leafS_2 z, hnum]
    simp only [Option.bind_some]
    rw [b1]
    exact ⟨b, rfl, b2⟩
  · have ec : clsT x = (155, x.2.2, 0) := by unfold clsT; rw [if_pos z]
    rw [ec]
    dsimp only
    rw [if_neg (by decide), if_neg (by decide), if_neg (by decide), if_pos rfl, leafS_3 z]
    by_cases y : S (249 + h 15 i) = x.2.2
    · rw [if_pos y]; exact ⟨1, rfl, Or.inl ⟨rfl, y⟩⟩
    · rw [if_neg y]; exact ⟨0, rfl, Or.inr ⟨rfl, y⟩⟩
  · have e3' : ¬ x.1 = 3 := by omega
    rcases z with z | ⟨z, hp⟩
    · have ec : clsT x = (156, x.2.1, x.2.2) := by unfold clsT cA; rw [if_neg e3', if_neg (by omega), if_pos z]
      rw [ec]
      dsimp only
      rw [if_neg (by decide), if_neg (by decide), if_neg (by decide), if_neg (by decide), if_pos rfl, leafS_4 z, hnum]
      simp only [Option.bind_some]
      obtain ⟨y, y1, y2, y3⟩ := compares_ok (h := h) (a := h 15 i) (b := x.2.2) hsg
      rw [y1]
      exact ⟨y, rfl, Bt.of y2 y3⟩
    · have ec : clsT x = (100 - x.1, x.2.1, x.2.2) := by unfold clsT cA; rw [if_neg e3', if_neg (by omega), if_neg (by omega), if_neg (by omega), if_neg (by omega), if_neg (by omega)]
      obtain ⟨⟨t0, t1⟩, hcell⟩ := hv _ m0 m1 m2
      have h0 := hs.1
      have hw := hs.2.2.2.2.1 _ t0 t1
      obtain ⟨⟨f0, f1⟩, -⟩ := fld_ok hp t0 (by omega)
      obtain ⟨pa, pb, pc, pd, ha, hb, hcc, hd, hpe⟩ := hp
      rw [ec]
      dsimp only
      rw [if_neg (by omega), if_neg (by omega), if_neg (by omega), if_neg (by omega), if_neg (by omega), leafS_5 z]
      have hcol : fX6_colOf h (100 - x.1) (S (249 + h 15 i)) = some (fldP (x.1 - 100) (S (249 + h 15 i)) - 1) := by
        unfold fX6_colOf
        rw [if_neg (by omega), if_pos (by omega), show -(100 - x.1) = x.1 - 100 by omega, w32_id (x := x.1 - 100) (by omega) (by omega), w32_id (x := 3 * S (249 + h 15 i)) (by omega) (by omega)]
        show some (w32 (fldP (x.1 - 100) (S (249 + h 15 i)) - 1)) = _
        rw [w32_id (by omega) (by omega)]
      rw [hcol]
      simp only [Option.bind_some]
      unfold fieldS fX6_holdsOne_b178
      by_cases y : fldP (x.1 - 100) (S (249 + h 15 i)) - 1 = -1
      · rw [if_pos y]
        simp only [if_true]
        exact ⟨0, rfl, Or.inr ⟨rfl, fun w => by have := w.1; omega⟩⟩
      · rw [if_neg y, value_in hc.1 i0 (by omega) (by omega) (by omega), m4 _ (by omega) (by omega)]
        simp only [Option.bind_some]
        have hb2 := (hcell (fldP (x.1 - 100) (S (249 + h 15 i)) - 1) (by omega) (by omega)).1
        generalize S (348 + (4 * h 15 i + (fldP (x.1 - 100) (S (249 + h 15 i)) - 1))) = v at hb2
        by_cases u : v = -1
        · rw [if_pos u]
          exact ⟨0, rfl, Or.inr ⟨rfl, fun w => by have := w.2.1; omega⟩⟩
        · rw [if_neg u]
          obtain ⟨r, y1, y2, y3⟩ := compares_ok (h := h) (a := v) (b := x.2.2) hsg
          rw [y1]
          simp only [Option.bind_some]
          rcases y2 with rfl | rfl
          · rw [if_pos rfl]
            exact ⟨0, rfl, Or.inr ⟨rfl, fun w => by have := y3.mpr w.2.2; omega⟩⟩
          · rw [if_neg (by decide)]
            exact ⟨1, rfl, Or.inl ⟨rfl, by omega, by omega, y3.mp rfl⟩⟩
/-- the model's -/
theorem bareM_ok {h : hH} (hL : Lay h) (hs : SOk (h 194)) (hv : SVal (h 194)) {q : Int} (q0 : 0 ≤ q) (q1 : q < 99) (qa : h 194 (150 + q) = 1) : ∃ b, fX12_isBare h 192 q = some b ∧ Bt b (bareS (h 194) q) := by
  obtain ⟨⟨t0, t1⟩, hcell⟩ := hv q q0 q1 qa
  have h0 := hs.1
  have hw := hs.2.2.2.2.1 _ t0 t1
  have hd : ∀ b c, 0 ≤ c → c < h 194 (4 + h 194 (249 + q)) → fX12_isBare_s4 h 192 q (b, c) = if b = 0 then (if h 194 (348 + (4 * q + c)) < 0 then some (.inl (1, c + 1)) else some (.inl (0, c + 1))) else some (.inl (1, c + 1)) := fun b c c0 c1 => by
    unfold fX12_isBare_s4 fX12_isBare_b38
    dsimp only
    rw [w32_id (x := 249 + q) (by omega) (by omega), sgk hL (by omega) (by omega)]
    simp only [Option.bind_some]
    rw [w32_id (x := 4 + h 194 (249 + q)) (by omega) (by omega), sgk hL (by omega) (by omega)]
    simp only [Option.bind_some]
    rw [if_pos c1, cellOf_ok hL q0 q1 c0 (by omega), w1 (by omega) (by omega)]
    rfl
  unfold fX12_isBare
  obtain ⟨b, b1, b2⟩ := lpO_any (f := fX12_isBare_s4 h 192 q) (h 194 (4 + h 194 (249 + q))) (fun c => h 194 (348 + (4 * q + c)) < 0) (fun c c0 c1 => ⟨fun z => by rw [hd 0 c c0 c1, if_pos rfl, if_pos z], fun z => by rw [hd 0 c c0 c1, if_pos rfl, if_neg z]⟩) (fun c c0 c1 => by rw [hd 1 c c0 c1, if_neg (by decide)]) (fun b => by
    unfold fX12_isBare_s4
    dsimp only
    rw [w32_id (x := 249 + q) (by omega) (by omega), sgk hL (by omega) (by omega)]
    simp only [Option.bind_some]
    rw [w32_id (x := 4 + h 194 (249 + q)) (by omega) (by omega), sgk hL (by omega) (by omega)]
    simp only [Option.bind_some]
    rw [if_neg (Int.lt_irrefl _)]) (b0 := 0) (Q := False) (Or.inr ⟨rfl, id⟩) (by omega)
  exact ⟨b, b1, b2.iff (by unfold bareS; simp)⟩
theorem isBroken_ok {h : hH} (hL : Lay h) (hs : SOk (h 194)) (hb : (liv (h 194)).length ≤ 40) (q : Int) : ∃ b h', fX12_isBroken h 192 q = some (b, h') ∧ Bt b (brokS (h 194) q) ∧ Lay h' ∧ OnlyM h h' := by
  obtain ⟨x, x1, x2, x3, x4⟩ := judgesAll_ok (late := 1) hL hs hb
  have hl := vioL_len (late := 1) hs hb
  unfold brokS
  generalize vioL (h 194) 1 = W at x3 hl ⊢
  have hd : ∀ b k, 0 ≤ k → k < (W.length : Int) → ∃ v, W[k.toNat]? = some v ∧ fX12_isBroken_s9 x 192 q (b, k) = if b = 0 then (if v.2.2 = q then some (.inl (1, k + 1)) else some (.inl (0, k + 1))) else some (.inl (1, k + 1)) := fun b k k0 k1 => by
    have hk : k.toNat < W.length := by omega
    have hv : W[k.toNat]? = some W[k.toNat] := List.getElem?_eq_getElem hk
    refine ⟨_, hv, ?_⟩
    have := (x3.2 _ _ hv).2.2
    rw [show ((k.toNat : Nat) : Int) = k by omega] at this
    unfold fX12_isBroken_s9 fX12_isBroken_b31
    dsimp only
    rw [x3.1, if_pos k1, ly_192_25 x2, aget_in k0 (by rw [ll_202 x2]; omega), this, w1 (by omega) (by omega)]
    rfl
  have key : ∀ (d : Nat) (k b : Int), ((W.length : Int) - k).toNat = d → 0 ≤ k → k ≤ W.length → Bt b (∃ i, 0 ≤ i ∧ i < k ∧ ∃ v, W[i.toNat]? = some v ∧ v.2.2 = q) → ∃ b', lpO (fX12_isBroken_s9 x 192 q) (b, k) = some (b', x) ∧ Bt b' (∃ i, 0 ≤ i ∧ i < (W.length : Int) ∧ ∃ v, W[i.toNat]? = some v ∧ v.2.2 = q) := by
    intro d
    induction d with
    | zero =>
      intro k b hd' k0 k1 h
      have e : k = W.length := by omega
      rw [e] at h ⊢
      refine ⟨b, lpO_inr ?_, h⟩
      unfold fX12_isBroken_s9
      dsimp only
      rw [x3.1, if_neg (Int.lt_irrefl _)]
    | succ d ih =>
      intro k b hd' k0 k1 h
      obtain ⟨v, v1, v2⟩ := hd b k k0 (by omega)
      have nxt : ∀ b', Bt b' (∃ i, 0 ≤ i ∧ i < k + 1 ∧ ∃ v, W[i.toNat]? = some v ∧ v.2.2 = q) → fX12_isBroken_s9 x 192 q (b, k) = some (.inl (b', k + 1)) → ∃ b', lpO (fX12_isBroken_s9 x 192 q) (b, k) = some (b', x) ∧ Bt b' (∃ i, 0 ≤ i ∧ i < (W.length : Int) ∧ ∃ v, W[i.toNat]? = some v ∧ v.2.2 = q) := fun b' hb' he => by
        rw [lpO_inl he]
        exact ih (k + 1) b' (by omega) (by omega) (by omega) hb'
      rcases h with ⟨rfl, i, i0, i1, u, u1, u2⟩ | ⟨rfl, hn⟩
      · rw [if_neg (by decide)] at v2
        exact nxt 1 (Or.inl ⟨rfl, i, i0, by omega, u, u1, u2⟩) v2
      · rw [if_pos rfl] at v2
        by_cases z : v.2.2 = q
        · rw [if_pos z] at v2
          exact nxt 1 (Or.inl ⟨rfl, k, k0, by omega, v, v1, z⟩) v2
        · rw [if_neg z] at v2
          refine nxt 0 (Or.inr ⟨rfl, fun ⟨i, i0, i1, u, u1, u2⟩ => ?_⟩) v2
          by_cases e : i = k
          · rw [e, v1] at u1
            injection u1 with u1
            exact z (by rw [u1]; exact u2)
          · exact hn ⟨i, i0, by omega, u, u1, u2⟩
  obtain ⟨b, b1, b2⟩ := key W.length 0 0 (by omega) (Int.le_refl _) (by omega) (Or.inr ⟨rfl, fun ⟨i, i0, i1, _⟩ => by omega⟩)
  refine ⟨b, x, ?_, b2.iff ⟨fun ⟨i, i0, i1, v, v1, v2⟩ => ⟨i.toNat, v, v1, v2⟩, fun ⟨i, v, v1, v2⟩ => ⟨(i : Int), by omega, by have := (List.getElem?_eq_some_iff.mp v1).1; omega, v, by rw [show ((i : Int)).toNat = i by omega]; exact v1, v2⟩⟩, x2, x4⟩
  unfold fX12_isBroken
  rw [x1]
  simp only [Option.bind_some]
  rw [b1]
theorem leafM_ok {h : hH} {x : CT} {q : Int} (hL : Lay h) (hs : SOk (h 194)) (hv : SVal (h 194)) (hb : (liv (h 194)).length ≤ 40) (hx : LeafOk x) (q0 : 0 ≤ q) (q1 : q < 99) (qa : h 194 (150 + q) = 1) : ∃ b h', fX12_isLeaf h 192 q x.1 x.2.1 x.2.2 = some (b, h') ∧ Bt b (leafS (h 194) x q) ∧ Lay h' ∧ OnlyM h h' := by
  unfold fX12_isLeaf
  rcases hx with (z | z | z | z) | ⟨z, hsg, hnm⟩
  · obtain ⟨b, b1, b2⟩ := bareM_ok hL hs hv q0 q1 qa
    rw [if_pos z, leafS_0 z, b1]
    exact ⟨b, h, rfl, b2, hL, OnlyM.rf⟩
  · rw [if_neg (by omega), if_pos z, leafS_1 z, referredTo_ok hL hs]
    simp only [Option.bind_some]
    by_cases y : 0 < refdS (h 194) q
    · rw [if_pos y]; exact ⟨1, h, rfl, Or.inl ⟨rfl, y⟩, hL, OnlyM.rf⟩
    · rw [if_neg y]; exact ⟨0, h, rfl, Or.inr ⟨rfl, y⟩, hL, OnlyM.rf⟩
  · obtain ⟨b, h', b1, b2, b3, b4⟩ := isBroken_ok hL hs hb q
    rw [if_neg (by omega), if_neg (by omega), if_pos z, leafS_2 z, b1]
    exact ⟨b, h', rfl, b2, b3, b4⟩
  · rw [if_neg (by omega), if_neg (by omega), if_neg (by omega), if_pos z, leafS_3 z, w32_id (x := 249 + q) (by omega) (by omega), sgk hL (by omega) (by omega)]
    simp only [Option.bind_some]
    by_cases y : h 194 (249 + q) = x.2.2
    · rw [if_pos y]; exact ⟨1, h, rfl, Or.inl ⟨rfl, y⟩, hL, OnlyM.rf⟩
    · rw [if_neg y]; exact ⟨0, h, rfl, Or.inr ⟨rfl, y⟩, hL, OnlyM.rf⟩
  · have e3' : ¬ x.1 = 3 := by omega
    have b137 : ∀ v, fX12_isLeaf_b137 h x.2.1 x.2.2 v = some (if v < 0 then 0 else @ite _ (soS x.2.1 v x.2.2) (Classical.propDecidable _) 1 0, h) := fun v => by
      unfold fX12_isLeaf_b137
      by_cases y : v < 0
      · rw [if_pos y, if_pos y]
      · rw [if_neg y, if_neg y]
        obtain ⟨r, r1, r2⟩ := isSo_ok (h := h) (s := x.2.1) (a := v) (b := x.2.2)
        rw [r1]
        simp only [Option.bind_some]
        rcases r2 with ⟨rfl, r2⟩ | ⟨rfl, r2⟩
        · rw [if_neg (by decide), if_pos r2]
        · rw [if_pos rfl, if_neg r2]
    rcases z with z | ⟨z, hp⟩
    · rw [if_neg (by omega), if_neg (by omega), if_neg (by omega), if_neg e3', if_pos z, leafS_4 z]
      unfold fX12_isLeaf_b110
      rw [if_pos z, b137, if_neg (by omega)]
      by_cases y : soS x.2.1 q x.2.2
      · rw [if_pos y]; exact ⟨1, h, rfl, Or.inl ⟨rfl, y⟩, hL, OnlyM.rf⟩
      · rw [if_neg y]; exact ⟨0, h, rfl, Or.inr ⟨rfl, y⟩, hL, OnlyM.rf⟩
    · obtain ⟨⟨t0, t1⟩, hcell⟩ := hv _ q0 q1 qa
      have h0 := hs.1
      have hw := hs.2.2.2.2.1 _ t0 t1
      obtain ⟨⟨f0, f1⟩, fe⟩ := fld_ok hp t0 (by omega)
      obtain ⟨pa, pb, pc, pd, ha, hb', hcc, hd, hpe⟩ := hp
      rw [if_neg (by omega), if_neg (by omega), if_neg (by omega), if_neg e3', if_neg (by omega), leafS_5 z, w32_id (x := 249 + q) (by omega) (by omega), sgk hL (by omega) (by omega)]
      simp only [Option.bind_some]
      rw [w32_id (x := x.1 - 100) (by omega) (by omega), w32_id (x := 3 * h 194 (249 + q)) (by omega) (by omega), fe]
      unfold fX12_isLeaf_b110 fieldS
      rw [if_neg (show ¬ x.1 = 4 by omega)]
      have ef : w32 (iadD (iusD (x.1 - 100) (3 * h 194 (249 + q))) 7 - 1) = fldP (x.1 - 100) (h 194 (249 + q)) - 1 := by
        show w32 (fldP (x.1 - 100) (h 194 (249 + q)) - 1) = _
        rw [w32_id (by omega) (by omega)]
      rw [ef]
      by_cases y : fldP (x.1 - 100) (h 194 (249 + q)) - 1 < 0
      · rw [if_pos y, b137, if_pos (by decide)]
        exact ⟨0, h, rfl, Or.inr ⟨rfl, fun w => by have := w.1; omega⟩, hL, OnlyM.rf⟩
      · rw [if_neg y, cellOf_ok hL q0 q1 (by omega) (by omega)]
        simp only [Option.bind_some]
        rw [b137]
        by_cases u : h 194 (348 + (4 * q + (fldP (x.1 - 100) (h 194 (249 + q)) - 1))) < 0
        · rw [if_pos u]
          exact ⟨0, h, rfl, Or.inr ⟨rfl, fun w => by have := w.2.1; omega⟩, hL, OnlyM.rf⟩
        · rw [if_neg u]
          by_cases o : soS x.2.1 (h 194 (348 + (4 * q + (fldP (x.1 - 100) (h 194 (249 + q)) - 1)))) x.2.2
          · rw [if_pos o]; exact ⟨1, h, rfl, Or.inl ⟨rfl, by omega, by omega, o⟩, hL, OnlyM.rf⟩
          · rw [if_neg o]; exact ⟨0, h, rfl, Or.inr ⟨rfl, fun w => o w.2.2⟩, hL, OnlyM.rf⟩
