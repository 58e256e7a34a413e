/-! WHAT OF THE INVARIANT STAYS; COMMIT, NOW as calls -/
theorem SOk.cong {s s' : Int → Int} (e : ∀ i, 0 ≤ i → i < 148 → s' i = s i) (hs : SOk s) : SOk s' := by
  obtain ⟨h0, h1, h2, h3, h4, h5, h6, h7, h8, h9⟩ := hs
  have e0 := e 0 (by decide) (by decide)
  have e1 := e 1 (by decide) (by decide)
  have e2 := e 2 (by decide) (by decide)
  have e3 := e 3 (by decide) (by decide)
  refine ⟨by rw [e0]; exact h0, by rw [e1]; exact h1, by rw [e2]; exact h2, by rw [e3]; exact h3, fun t t0 t1 => ?_, fun i i0 i1 => ?_, fun i i0 i1 => ?_, fun k k0 k1 => ?_, fun f f0 f1 => ?_, fun c c0 c1 => ?_⟩
  · rw [e0] at t1
    rw [e (4 + t) (by omega) (by omega)]
    exact h4 t t0 t1
  · rw [e (8 + i) (by omega) (by omega)]; exact h5 i i0 i1
  · rw [e (24 + i) (by omega) (by omega)]; exact h6 i i0 i1
  · rw [e1] at k1
    have := h7 k k0 k1
    rw [e (40 + k) (by omega) (by omega), e (46 + k) (by omega) (by omega), e (52 + k) (by omega) (by omega), e0, e (4 + s (40 + k)) (by omega) (by omega)]
    exact this
  · rw [e2] at f1
    have := h8 f f0 f1
    rw [e (58 + f) (by omega) (by omega), e (64 + f) (by omega) (by omega), e (70 + f) (by omega) (by omega), e (76 + f) (by omega) (by omega), e (82 + f) (by omega) (by omega), e (88 + f) (by omega) (by omega), e (94 + f) (by omega) (by omega), e (100 + f) (by omega) (by omega), e (106 + f) (by omega) (by omega), e0, e1, e (4 + s (58 + f)) (by omega) (by omega), e (40 + s (82 + f)) (by omega) (by omega), e (52 + s (82 + f)) (by omega) (by omega)]
    exact this
  · rw [e3] at c1
    have := h9 c c0 c1
    rw [e (112 + c) (by omega) (by omega), e (118 + c) (by omega) (by omega), e (124 + c) (by omega) (by omega), e (130 + c) (by omega) (by omega), e (136 + c) (by omega) (by omega), e (142 + c) (by omega) (by omega), e0, e (4 + s (112 + c)) (by omega) (by omega)]
    exact this
theorem SchR.cong {h : hH} {p : Int} {s s' : Int → Int} (e : ∀ i, 0 ≤ i → i < 148 → s' i = s i) (hs : SOk s) (hR : SchR h p s) : SchR h p s' := by
  obtain ⟨h0, h1, h2, h3, h4, -⟩ := hs
  obtain ⟨r0, r1, r2, r3, r4, r5, r6⟩ := hR
  have e0 := e 0 (by decide) (by decide)
  have e1 := e 1 (by decide) (by decide)
  have e2 := e 2 (by decide) (by decide)
  have e3 := e 3 (by decide) (by decide)
  refine ⟨by rw [e0, e1, e2, e3]; exact r0, fun t t0 t1 => ?_, fun i i0 i1 => ?_, fun i i0 i1 => ?_, fun k k0 k1 => ?_, fun f f0 f1 => ?_, fun c c0 c1 => ?_⟩
  · rw [e0] at t1
    rw [e (4 + t) (by omega) (by omega)]
    exact r1 t t0 t1
  · rw [e (8 + i) (by omega) (by omega)]; exact r2 i i0 i1
  · rw [e (24 + i) (by omega) (by omega)]; exact r3 i i0 i1
  · rw [e1] at k1
    rw [e (40 + k) (by omega) (by omega), e (46 + k) (by omega) (by omega), e (52 + k) (by omega) (by omega)]
    exact r4 k k0 k1
  · rw [e2] at f1
    rw [e (58 + f) (by omega) (by omega), e (64 + f) (by omega) (by omega), e (70 + f) (by omega) (by omega), e (76 + f) (by omega) (by omega), e (82 + f) (by omega) (by omega), e (88 + f) (by omega) (by omega), e (94 + f) (by omega) (by omega), e (100 + f) (by omega) (by omega), e (106 + f) (by omega) (by omega)]
    exact r5 f f0 f1
  · rw [e3] at c1
    rw [e (112 + c) (by omega) (by omega), e (118 + c) (by omega) (by omega), e (124 + c) (by omega) (by omega), e (130 + c) (by omega) (by omega), e (136 + c) (by omega) (by omega), e (142 + c) (by omega) (by omega)]
    exact r6 c c0 c1
theorem SchR.rows {h h' : hH} {p : Int} {s : Int → Int} (e : ∀ k, 0 ≤ k → k < 9 → h' (p + k) = h (p + k)) (hR : SchR h p s) : SchR h' p s := by
  have p0 := e 0 (by decide) (by decide)
  rw [Int.add_zero] at p0
  unfold SchR at hR ⊢
  rw [p0, e 2 (by decide) (by decide), e 4 (by decide) (by decide), e 5 (by decide) (by decide), e 6 (by decide) (by decide), e 7 (by decide) (by decide), e 8 (by decide) (by decide)]
  exact hR
theorem SchI.of {h h' : hH} (h1 : SchI h) (e : ∀ a, 4 ≤ a → a < 13 → h' a = h a) (es : ∀ i, 0 ≤ i → i < 148 → h' 194 i = h 194 i) : SchI h' := ⟨SchR.cong es h1.2 (SchR.rows (fun k k0 k1 => e _ (by omega) (by omega)) h1.1), h1.2.cong es⟩
theorem StI.of {h h' : hH} (h2 : StI h) (e : ∀ a, 13 ≤ a → a < 22 → h' a = h a) (es : h' 194 = h 194) : StI h' := by
  unfold StI
  rw [es]
  exact ⟨StH.sameL (fun a a0 a1 => e a a0 (by omega)) h2.1, h2.2⟩
theorem UndI.of {h h' : hH} (h3 : UndI h) (e0 : h' 0 11 = h 0 11) (e : ∀ a, 74 ≤ a → a < 150 → h' a = h a) (em : h' 192 44 = h 192 44) (e2 : h' 212 = h 212) (es : ∀ i, i < 148 → h' 194 i = h 194 i) (hT : h 194 0 ≤ 4) : UndI h' := by
  obtain ⟨u, c1, c2, c3⟩ := h3
  exact und_asm c1 e0 (fun a ha => e a ha.1 ha.2) ⟨by rw [em]; exact c2, fun j j0 j1 => by
    rw [sl_eq (h := h) e2 es]
    exact fun _ _ _ => rfl⟩ c3 (by rw [es 0 (by decide)]; exact hT)
theorem Only.row {v : Int} {h h' : hH} (ho : Only v h h') {a : Int} (h1 : a ≠ v) (h2 : a ≠ v + 1) : h' a = h a := ho.1 a h1 h2
theorem Only.lay {v : Int} {h h' : hH} (ho : Only v h h') (hL : Lay h) (h1 : refT.all (fun q => !(q.1 == v && q.2.1 == 0) && !(q.1 == v + 1)) = true) (h2 : lenT.all (fun q => !(q.1 == v)) = true) : Lay h' := by
  simp only [List.all_eq_true, Bool.and_eq_true, Bool.not_eq_true', Bool.and_eq_false_iff, beq_eq_false_iff_ne] at h1 h2
  refine hL.of (fun q hq => ?_) (fun q hq => ?_)
  · obtain ⟨y1, y2⟩ := h1 q hq
    by_cases z : q.1 = v
    · rw [z]
      exact ho.2.1 _ (y1.resolve_left (fun y => y z))
    · rw [ho.1 _ z y2]
  · by_cases z : q.1 = v + 1
    · rw [z]; exact ho.2.2
    · rw [ho.1 _ (h2 q hq) z]
theorem only44_lay {h h' : hH} (ho : Only 44 h h') (hL : Lay h) : Lay h' := ho.lay hL (by decide +kernel) (by decide +kernel)
theorem only57_lay {h h' : hH} (ho : Only 57 h h') (hL : Lay h) : Lay h' := ho.lay hL (by decide +kernel) (by decide +kernel)
theorem apart44 : Apart 44 14 4 := fun a ha => ⟨fun k k0 k1 => by omega, fun k k0 k1 => by omega⟩
theorem apart57 : Apart 57 14 4 := fun a ha => ⟨fun k k0 k1 => by omega, fun k k0 k1 => by omega⟩
theorem vioAt44 {h : hH} (hL : Lay h) : VioAt h 44 := ⟨ly_44_1 hL, ll_45 hL⟩
theorem vioAt57 {h : hH} (hL : Lay h) : VioAt h 57 := ⟨ly_57_1 hL, ll_58 hL⟩
section CALLS
variable {h : hH}
/-- all violations now, the class's way, then the model's -/
theorem scanNow {v : Int} (hv : v = 44 ∨ v = 57) (hL : Lay h) (h1 : SchI h) (h2 : StI h) : ∃ k, fX10_scan h v 4 14 1 = some (((vioL (h 194) 1).length : Int), k) ∧ VioC k v (vioL (h 194) 1) ∧ Only v h k ∧ Lay k ∧ SchI k ∧ StI k := by
  rcases hv with rfl | rfl
  · obtain ⟨k, k1, k2, k3⟩ := scan_ok (late := 1) (vioAt44 hL) (ctx14 hL h1 h2) apart44 h1.2 h2.2.2.2.1
    exact ⟨k, k1, k2, k3, only44_lay k3 hL, h1.of (fun a a0 a1 => k3.row (by omega) (by omega)) (fun i _ _ => by rw [k3.row (by decide) (by decide)]), h2.of (fun a a0 a1 => k3.row (by omega) (by omega)) (k3.row (by decide) (by decide))⟩
  · obtain ⟨k, k1, k2, k3⟩ := scan_ok (late := 1) (vioAt57 hL) (ctx14 hL h1 h2) apart57 h1.2 h2.2.2.2.1
    exact ⟨k, k1, k2, k3, only57_lay k3 hL, h1.of (fun a a0 a1 => k3.row (by omega) (by omega)) (fun i _ _ => by rw [k3.row (by decide) (by decide)]), h2.of (fun a a0 a1 => k3.row (by omega) (by omega)) (k3.row (by decide) (by decide))⟩
theorem judgesNow (hL : Lay h) (h1 : SchI h) (h2 : StI h) : ∃ k, fX12_judgesAll h 192 1 = some k ∧ Lay k ∧ VioM k (vioL (h 194) 1) ∧ OnlyM h k := by
  obtain ⟨k, k1, k2⟩ := judgesAll_ok (late := 1) hL h1.2 h2.2.2.2.2.2.2.1
  exact ⟨k, k1, k2.1, k2.2.1, k2.2.2⟩
def comP (a b : Int) : Bool := a == 44 || a == 45 || a == 200 || a == 201 || a == 202 || a == 209 || a == 210 || a == 211 || (a == 192 && (b == 26 || b == 41))
def comC (a b : Int) : Bool := trC a b || comP a b
theorem Only.com {g g' : hH} (ho : Only 44 g g') : Fr comC g g' := fun a b z => by
  refine congrFun (ho.row ?_ ?_) b
  · rintro rfl; revert z; simp [comC, comP]
  · rintro rfl; revert z; simp [comC, comP]
theorem OnlyM.com {g g' : hH} (ho : OnlyM g g') : Fr comC g g' := fun a b z => by
  by_cases e : a = 192
  · subst e
    refine ho.2 b ?_
    rintro rfl; revert z; simp [comC, comP]
  · refine congrFun (ho.1 a e ?_ ?_ ?_) b <;> rintro rfl <;> revert z <;> simp [comC, comP]
theorem tel_com {a b : Int} (z : telC a b = true) : comC a b = true := by
  unfold telC at z
  unfold comC comP
  simp at z ⊢
  omega
/-- the violations that the class keeps and the model tells are the same -/
theorem LatV.mk {k y : hH} {L : List (Int × Int × Int)} (hC : VioC k 44 L) (hl : L.length ≤ 880) (hr : VRng L) (e44 : y 44 = k 44) (e45 : y 45 = k 45) (hm : y 192 41 = L.length ∧ ∀ (i : Nat) (x : Int × Int × Int), L[i]? = some x → y 209 i = x.1 ∧ y 210 i = x.2.1 ∧ y 211 i = x.2.2) : LatV y := by
  refine ⟨L, ⟨by rw [e44]; exact hC.1, fun i x hx => ?_⟩, hl, hr, hm.1, hm.2⟩
  have := hC.2 i x hx
  rw [show (44 : Int) + 1 = 45 from rfl] at this ⊢
  rw [e45]; exact this
theorem telRow {g g' : hH} (hf : Fr telC g g') {a : Int} (ha : a < 192 ∨ a = 194 ∨ a = 193 ∨ 211 < a) : g' a = g a := hf.row a (fun b => by unfold telC; simp; omega)
theorem tel192 {g g' : hH} (hf : Fr telC g g') {b : Int} (hb : b ≠ 41) : g' 192 b = g 192 b := hf 192 b (by unfold telC; simp; omega)
theorem commit_ok (hL : Lay h) (h1 : SchI h) (h2 : StI h) (h3 : UndI h) : ∃ r h' h'', fX11_commit h 0 = some (r, h') ∧ fX12_commit h' 192 = some (r, h'') ∧ Lay h'' ∧ StI h'' ∧ UndI h'' ∧ LatV h'' ∧ Fr comC h h'' := by
  have e7 := ly_0_7 hL
  have e43 := ly_39_3 hL
  unfold fX11_commit fX10_reset
  rw [e7, e43]
  simp only [pput, Option.bind_some]
  generalize hg : hup h 44 0 0 = g
  have Lg : Lay g := by rw [← hg]; exact hL.upF (by decide)
  have ga : ∀ a, a ≠ 44 → g a = h a := fun a ha => by rw [← hg, hup_off ha]
  have fg : Fr comC h g := by rw [← hg]; exact Fr.up (by decide)
  have C0 : VioC g 44 [] := ⟨by rw [← hg, hup_at]; rfl, fun i x hx => by simp at hx⟩
  have S1 : SchI g := h1.of (fun a a0 a1 => ga a (by omega)) (fun i _ _ => by rw [ga 194 (by decide)])
  have S2 : StI g := h2.of (fun a a0 a1 => ga a (by omega)) (ga 194 (by decide))
  have S3 : UndI g := h3.of (by rw [ga 0 (by decide)]) (fun a a0 a1 => ga a (by omega)) (by rw [ga 192 (by decide)]) (ga 212 (by decide)) (fun i _ => by rw [ga 194 (by decide)]) h1.2.1.2
  have eon : g 13 2 = g 194 149 := S2.1.2.2.1
  rw [ly_0_2 Lg, eon]
  have mq : ∀ k : hH, Lay k → ∃ q, hup (hup k 192 0 0) 192 26 0 = q ∧ Lay q ∧ (∀ a, a ≠ 192 → q a = k a) ∧ (∀ b, b ≠ 0 → b ≠ 26 → q 192 b = k 192 b) ∧ Fr comC k q ∧ VioM q [] := fun k hk => ⟨_, rfl, (hk.upF (by decide)).upF (by decide), fun a ha => by rw [hup_off ha, hup_off ha], fun b b0 b1 => by rw [hup_ne (fun z => b1 z.2), hup_ne (fun z => b0 z.2)], Fr.tr (Fr.up (by decide)) (Fr.up (by decide)), hup_at, fun i x hx => by simp at hx⟩
  have hb := h2.2.2.2.2.2.2.1
  have es : g 194 = h 194 := ga 194 (by decide)
  by_cases z : g 194 149 = 0
  · rw [if_pos z]
    obtain ⟨q, q1, q2, q3, q4, q5, q6⟩ := mq g Lg
    obtain ⟨y, y1, y2, y3⟩ := tellsV_ok q2 q6 (by decide)
    refine ⟨1, g, y, rfl, ?_, y2.lay q2 (by decide +kernel) (by decide +kernel), ?_, ?_, ?_, fg.tr (q5.tr (y2.mono (fun a b w => tel_com w)))⟩
    · unfold fX12_commit fX12_whyCommit
      simp only [pput, Option.bind_some]
      rw [q1, sgk q2 (by decide) (by decide), q3 194 (by decide), z]
      simp only [Option.bind_some, if_true]
      rw [y1]
      simp only [Option.bind_some, if_pos (show (0 : Int) < 1 by decide)]
    · exact S2.of (fun a a0 a1 => by rw [telRow y2 (by omega), q3 a (by omega)]) (by rw [telRow y2 (by omega), q3 _ (by decide)])
    · exact S3.of (by rw [telRow y2 (by omega), q3 _ (by decide)]) (fun a a0 a1 => by rw [telRow y2 (by omega), q3 a (by omega)]) (by rw [tel192 y2 (by decide), q4 _ (by decide) (by decide)]) (by rw [telRow y2 (by omega), q3 _ (by decide)]) (fun i _ => by rw [telRow y2 (by omega), q3 _ (by decide)]) S1.2.1.2
    · exact LatV.mk C0 (by decide) (fun x hx => absurd hx List.not_mem_nil) (by rw [telRow y2 (by omega), q3 _ (by decide)]) (by rw [telRow y2 (by omega), q3 _ (by decide)]) y3
  · rw [if_neg z]
    obtain ⟨k, k1, k2, k3, k4, k5, k6⟩ := scanNow (Or.inl rfl) Lg S1 S2
    rw [ly_0_7 Lg, ly_39_3 Lg, ly_0_1 Lg, ly_13_0 Lg, k1]
    simp only [Option.bind_some]
    have fk : Fr comC h k := fg.tr k3.com
    have kr : ∀ a, a ≠ 44 → a ≠ 45 → k a = h a := fun a a0 a1 => by rw [k3.row a0 a1, ga a a0]
    have S3k : UndI k := S3.of (by rw [k3.row (by decide) (by decide)]) (fun a a0 a1 => k3.row (by omega) (by omega)) (by rw [k3.row (by decide) (by decide)]) (k3.row (by decide) (by decide)) (fun i _ => by rw [k3.row (by decide) (by decide)]) S1.2.1.2
    have esk : k 194 = h 194 := kr 194 (by decide) (by decide)
    rw [es] at k1 k2
    by_cases y : 0 < ((vioL (g 194) 1).length : Int)
    · rw [if_pos y]
      rw [es] at y
      obtain ⟨q, q1, q2, q3, q4, q5, q6⟩ := mq k k4
      have Q1 : SchI q := k5.of (fun a a0 a1 => q3 a (by omega)) (fun i _ _ => by rw [q3 194 (by decide)])
      have Q2 : StI q := k6.of (fun a a0 a1 => q3 a (by omega)) (q3 194 (by decide))
      obtain ⟨x, x1, x2, x3, x4⟩ := judgesNow q2 Q1 Q2
      have eq : q 194 = h 194 := (q3 194 (by decide)).trans esk
      rw [eq] at x3
      obtain ⟨w, w1, w2, w3⟩ := tellsV_ok x2 x3 (vioL_len h1.2 hb)
      have xr : ∀ a, a < 192 ∨ a = 194 ∨ a = 212 → w a = k a := fun a ha => by rw [telRow w2 (by omega), x4.1 a (by omega) (by omega) (by omega) (by omega), q3 a (by omega)]
      refine ⟨2, k, w, rfl, ?_, w2.lay x2 (by decide +kernel) (by decide +kernel), ?_, ?_, ?_, fk.tr (q5.tr (x4.com.tr (w2.mono (fun a b w => tel_com w))))⟩
      · unfold fX12_commit fX12_whyCommit
        simp only [pput, Option.bind_some]
        rw [q1, sgk q2 (by decide) (by decide), eq, ← es]
        simp only [Option.bind_some, if_neg z]
        rw [x1]
        simp only [Option.bind_some]
        rw [x3.1, if_pos y]
        simp only [Option.bind_some]
        rw [w1]
        simp only [Option.bind_some, if_pos (show (0 : Int) < 2 by decide)]
      · exact k6.of (fun a a0 a1 => xr a (by omega)) (xr 194 (by omega))
      · exact S3k.of (by rw [xr 0 (by omega)]) (fun a a0 a1 => xr a (by omega)) (by rw [tel192 w2 (by decide), x4.2 _ (by decide), q4 _ (by decide) (by decide)]) (xr 212 (by omega)) (fun i _ => by rw [xr 194 (by omega)]) k5.2.1.2
      · exact LatV.mk k2 (vioL_len h1.2 hb) (vioL_rng h1.2) (xr 44 (by omega)) (xr 45 (by omega)) w3
    · rw [if_neg y]
      rw [es] at y
      have hnil : vioL (h 194) 1 = [] := List.eq_nil_of_length_eq_zero (by omega)
      obtain ⟨u, n, V, n1, n2, n3, n4, n5⟩ := keep2 k4 k5 k6 S3k
      have Ln : Lay n := n3.lay k4 undC_lay1 undC_lay2
      rw [ly_0_2 k4, n1]
      simp only [Option.bind_some]
      rw [ly_0_2 Ln]
      have nr : ∀ a, ((a < 74 ∨ 150 ≤ a) ∧ a ≠ 0) → n a = k a := fun a ha => n3.row a (fun b => undC_out ha)
      have ns : n 194 = h 194 := (nr 194 (by omega)).trans esk
      have nst : StH n 13 (h 194) := by rw [← esk]; exact StH.sameL (fun a a0 a1 => nr a (by omega)) k6.1
      obtain ⟨c1, c2⟩ := commitC_ok nst
      generalize hm : hup n 13 2 0 = m at c1 c2
      have Lm : Lay m := by rw [← hm]; exact Ln.upF (by decide)
      have ma : ∀ a, a ≠ 13 → m a = n a := fun a ha => by rw [← hm, hup_off ha]
      obtain ⟨q, q1, q2, q3, q4, q5, q6⟩ := mq m Lm
      have eq : q 194 = h 194 := by rw [q3 _ (by decide), ma _ (by decide), ns]
      obtain ⟨x, x1, x2⟩ := judgesAll_ok (late := 1) q2 (by rw [eq]; exact h1.2) (by rw [eq]; exact hb)
      rw [eq, hnil] at x2
      obtain ⟨w, w1, w2, w3⟩ := tellsV_ok x2.1 x2.2.1 (by decide)
      have Lw : Lay w := w2.lay x2.1 (by decide +kernel) (by decide +kernel)
      have wr : ∀ a, a < 192 ∨ a = 194 ∨ a = 212 → w a = m a := fun a ha => by rw [telRow w2 (by omega), x2.2.2.1 a (by omega) (by omega) (by omega) (by omega), q3 a (by omega)]
      obtain ⟨j, j1, j2, j3⟩ := n5 w (fun a ha b hb0 hb1 hb2 => by
        rcases ha with rfl | rfl | rfl
        · rw [tel192 w2 (fun z => hb2 (by rw [z])), x2.2.2.2 b (fun z => hb1 (by rw [z])), q4 b (fun z => hb0 (by rw [z])) (fun z => hb1 (by rw [z])), ma _ (by decide), nr _ (by omega)]
        · rw [wr _ (by omega), ma _ (by decide), nr _ (by omega)]
        · rw [wr _ (by omega), ma _ (by decide), nr _ (by omega)]) Lw
      have Lj : Lay j := j2.lay Lw kpM_lay1 kpM_lay2
      obtain ⟨o, o1, o2, o3⟩ := commits_ok Lj
      have js : j 194 = h 194 := (j2.row 194 (fun b => kpM_out (by omega))).trans (by rw [wr _ (by omega), ma _ (by decide), ns])
      rw [js] at o2
      have jc : ∀ a, a < 192 → j a = m a := fun a ha => (j2.row a (fun b => kpM_out (by omega))).trans (wr a (by omega))
      refine ⟨0, m, o, ?_, ?_, ?_, ⟨?_, ?_⟩, ?_, ?_, ?_⟩
      · rw [← hm]
      · unfold fX12_commit fX12_whyCommit
        simp only [pput, Option.bind_some]
        rw [q1, sgk q2 (by decide) (by decide), eq, ← es]
        simp only [Option.bind_some, if_neg z]
        rw [x1]
        simp only [Option.bind_some]
        rw [x2.2.1.1]
        simp only [List.length_nil, Int.ofNat_eq_natCast, Int.natCast_zero, if_neg (Int.lt_irrefl _), Option.bind_some]
        rw [w1]
        simp only [Option.bind_some]
        rw [j1]
        simp only [Option.bind_some]
        rw [o1]
        simp only [if_neg (Int.lt_irrefl _), Option.bind_some]
      · exact (fr_s (C := fun a b => a == 194 && decide (148 ≤ b)) o3 (fun i hi => by rw [o2, js, commitS_o hi]) (fun b b0 b1 => by simp; omega)).lay Lj (by decide +kernel) (by decide +kernel)
      · rw [o2]
        exact StH.sameL (fun a a0 a1 => (o3 a (by omega)).trans (jc a (by omega))) c1
      · rw [o2]
        exact h2.2.commit h1.2.1.2
      · refine und_asm (V := V) n2 ?_ (fun a ha => ?_) ⟨?_, fun i i0 i1 => ?_⟩ n4 ?_
        · rw [o3 _ (by decide), jc _ (by decide), ma _ (by decide)]
        · rw [o3 _ (by omega), jc _ (by omega), ma _ (by omega)]
        · rw [o3 _ (by decide)]; exact j3.1
        · rw [sl_eq (h := j) (o3 _ (by decide)) (fun i hi => by rw [o2, js, commitS_o (Or.inl hi)])]
          exact j3.2 i i0 i1
        · rw [o2, commitS_o (by decide)]; exact h1.2.1.2
      · have l41 : o 192 41 = ([] : List (Int × Int × Int)).length := by
          rw [o3 _ (by decide), j2 192 41 (by decide)]
          exact w3.1
        rw [hnil] at k2
        exact LatV.mk k2 (by decide) (fun x hx => absurd hx List.not_mem_nil) (by rw [o3 _ (by decide), jc _ (by decide), ma _ (by decide), nr _ (by omega)]) (by rw [o3 _ (by decide), jc _ (by decide), ma _ (by decide), nr _ (by omega)]) ⟨l41, fun i x hx => by simp at hx⟩
      · have tc : ∀ {a b : Int}, trC a b = true → comC a b = true := fun {a b} w => by unfold comC; rw [w]; rfl
        refine fk.tr ((n3.mono (fun a b w => tc (by unfold trC; rw [w]; simp))).tr ((c2.mono (fun a b w => tc (by unfold trC; rw [w]; simp))).tr (q5.tr (x2.2.2.com.tr ((w2.mono (fun a b w => tel_com w)).tr ((j2.mono (fun a b w => tc (by unfold trC; rw [w]; simp))).tr (fr_s o3 (fun i hi => by rw [o2, js, commitS_o hi]) (fun b b0 b1 => tc (by unfold trC; simp; omega)))))))))
def nowC (a b : Int) : Bool := a == 57 || a == 58 || a == 200 || a == 201 || a == 202 || (a == 192 && (b == 26 || b == 0))
theorem now_ok (hL : Lay h) (h1 : SchI h) (h2 : StI h) (what : Int) : ∃ r h' h'', fX11_now h 0 what = some (r, h') ∧ fX12_now h' 192 what = some (r, h'') ∧ Lay h'' ∧ Fr nowC h h'' := by
  have e2 := ly_0_2 hL
  have e0 := ly_13_0 hL
  have r0 : h 14 1 = h 194 148 := h2.1.2.1
  have r2 : h 13 2 = h 194 149 := h2.1.2.2.1
  have tf : Fr nowC h (Th h) := Fr.up (by decide)
  have Lt := th_lay hL
  unfold fX11_now fX12_now
  rw [e2, e0, ly_0_8 hL, ly_52_3 hL, ly_0_1 hL]
  by_cases a0 : what = 0
  · simp only [if_pos a0]
    refine ⟨_, h, Th h, rfl, ?_, Lt, tf⟩
    rw [th_p]
    simp only [Option.bind_some]
    rw [rowsNow_ok Lt (th_st h2) Lt, th_off (by decide)]
    rfl
  · simp only [if_neg a0]
    by_cases a1 : what = 1
    · simp only [if_pos a1]
      refine ⟨_, h, Th h, rfl, ?_, Lt, tf⟩
      rw [th_p]
      simp only [Option.bind_some]
      rw [sgk Lt (by decide) (by decide), th_off (by decide), r0]
      rfl
    · simp only [if_neg a1]
      by_cases a2 : what = 2
      · simp only [if_pos a2]
        rw [r2]
        refine ⟨h 194 149, h, Th h, ?_, ?_, Lt, tf⟩
        · rcases h2.2.2.1 with z | z
          · rw [z]; rfl
          · rw [z]; rfl
        · rw [th_p]
          simp only [Option.bind_some]
          rw [sgk Lt (by decide) (by decide), th_off (by decide)]
          rfl
      · simp only [if_neg a2]
        by_cases a3 : what = 3
        · simp only [if_pos a3]
          obtain ⟨k, k1, k2, k3, k4, k5, k6⟩ := scanNow (Or.inr rfl) hL h1 h2
          rw [k1]
          obtain ⟨x, x1, x2, x3, x4⟩ := judgesNow (th_lay k4) (th_sch k5) (th_st k6)
          have es : Th k 194 = h 194 := by rw [th_off (by decide), k3.row (by decide) (by decide)]
          rw [es] at x3
          refine ⟨_, k, x, rfl, ?_, x2, fun a b w => ?_⟩
          · rw [th_p]
            unfold fX12_violationsNow
            simp only [Option.bind_some]
            rw [x1]
            simp only [Option.bind_some]
            rw [x3.1]
          · have n0 : ∀ c, nowC c b = true → a ≠ c := fun c hc e => by rw [e, hc] at w; cases w
            by_cases e : a = 192
            · subst e
              have b0 : b ≠ 0 := fun e => by rw [e] at w; cases w
              have b1 : b ≠ 26 := fun e => by rw [e] at w; cases w
              rw [x4.2 b b1, th_ne b0, k3.row (by decide) (by decide)]
            · rw [x4.1 a e (n0 _ rfl) (n0 _ rfl) (n0 _ rfl), th_off e, k3.row (n0 _ rfl) (n0 _ rfl)]
        · simp only [if_neg a3]
          refine ⟨-1, h, Th h, rfl, ?_, Lt, tf⟩
          rw [th_p]
          rfl
end CALLS
