/-! BEGIN, BACK, UNDO, COMMIT as calls -/
def SchI (h : hH) : Prop := SchR h 4 (h 194) ∧ SOk (h 194)
def StI (h : hH) : Prop := StH h 13 (h 194) ∧ StOk (h 194)
def UndI (h : hH) : Prop := ∃ u, UndC h u (sl h) ∧ h 192 44 = u ∧ ∀ j, 0 ≤ j → j < u → StOk (sl h j)
def UndM (h : hH) (u : Int) (U : Int → Int → Int) : Prop := h 192 44 = u ∧ ∀ j, 0 ≤ j → j < u → EqS (sl h j) (U j)
theorem schAt4 {h : hH} (hL : Lay h) : SchemaAt h 4 := ⟨ly_4_4 hL, ly_4_5 hL, ly_4_6 hL, ly_4_7 hL, ly_4_8 hL, ly_4_9 hL, ly_4_10 hL, ly_4_11 hL, ll_5 hL, ll_6 hL, ll_7 hL, ll_8 hL, ll_9 hL, ll_10 hL, ll_11 hL, ll_12 hL⟩
theorem ctx14 {h : hH} (hL : Lay h) (h1 : SchI h) (h2 : StI h) : Ctx4 h 14 4 (h 194) := ⟨(stAt_13 hL).2.2.1, h2.1.1, schAt4 hL, h1.1⟩
theorem UndC.fr {h h' : hH} {u : Int} {U : Int → Int → Int} (hU : UndC h u U) (e0 : h' 0 11 = h 0 11) (e : ∀ a, (74 ≤ a ∧ a < 150) → h' a = h a) : UndC h' u U := by
  obtain ⟨u1, u0, u2, u3, u4, u5⟩ := hU
  have e74 := e 74 (by decide)
  refine ⟨e0.trans u1, u0, u2, by rw [e74]; exact u3, by rw [e74]; exact u4, fun j j0 j1 => ?_⟩
  rw [e74]
  exact StH.same74 (fun a a0 a1 => e a (by omega)) (u3 j j0 (by omega)) (u5 j j0 j1)
theorem und_asm {h h' : hH} {u : Int} {V : Int → Int → Int} (hC : UndC h u V) (e0 : h' 0 11 = h 0 11) (e : ∀ a, (74 ≤ a ∧ a < 150) → h' a = h a) (hM : UndM h' u V) (hO : ∀ j, 0 ≤ j → j < u → StOk (V j)) (hT : h' 194 0 ≤ 4) : UndI h' := by
  obtain ⟨u1, u0, u2, u3, u4, u5⟩ := hC.fr e0 e
  refine ⟨u, ⟨u1, u0, u2, u3, u4, fun j j0 j1 => (u5 j j0 j1).cong (hM.2 j j0 j1).sy⟩, hM.1, fun j j0 j1 => (hO j j0 j1).cong (hM.2 j j0 j1).sy ?_⟩
  rw [← hM.2 j j0 j1 0 (by decide) (by decide)]
  exact hT
theorem push_ok {u : Int} {U : Int → Int → Int} {X : Int → Int} (hO : ∀ j, 0 ≤ j → j < u → StOk (U j)) (hX : StOk X) (j : Int) (j0 : 0 ≤ j) (j1 : j < if u = 8 then 8 else u + 1) : StOk (push u U X j) := by
  unfold push
  by_cases z : u = 8
  · simp only [if_pos z] at j1 ⊢
    by_cases y : j = 7
    · rw [if_pos y]; exact hX
    · rw [if_neg y]; exact hO _ (by omega) (by omega)
  · simp only [if_neg z] at j1 ⊢
    by_cases y : j = u
    · rw [if_pos y]; exact hX
    · rw [if_neg y]; exact hO _ (by omega) (by omega)
/-- what stores does, as slices -/
theorem stores_sl {h : hH} (hL : Lay h) {A m : Int} (hA : h A (-1) = 1091) (hA2 : A ≠ 212 ∧ A ≠ 192) (hm : h 192 44 = m) (m0 : 0 ≤ m) (m1 : m ≤ 8) : ∃ h', fX12_stores h 192 A = some h' ∧ Fr stM h h' ∧ UndM h' (if m = 8 then 8 else m + 1) (push m (sl h) (slA h A 0)) := by
  obtain ⟨h', c1, c2, c3, c4, c5⟩ := stores_ok hL hA hA2 hm m0 m1
  refine ⟨h', c1, c2, c3, fun j j0 j1 i i0 i1 => ?_⟩
  have e194 : h' 194 = h 194 := c2.row 194 (fun b => by unfold stM; simp)
  unfold push sl slA
  by_cases z : m = 8
  · simp only [if_pos z] at j1 c4 c5 ⊢
    by_cases y : j = 7
    · rw [y]
      simp only [if_true]
      by_cases x : i < 148
      · rw [if_pos x, if_pos x, e194]
      · rw [if_neg x, if_neg x, c5 _ (by omega) (by omega)]
        congr 1
        omega
    · simp only [if_neg y]
      by_cases x : i < 148
      · rw [if_pos x, if_pos x, e194]
      · rw [if_neg x, if_neg x, c4 j _ j0 (by omega) (by omega) (by omega)]
  · simp only [if_neg z] at j1 c4 c5 ⊢
    by_cases y : j = m
    · rw [y]
      simp only [if_true]
      by_cases x : i < 148
      · rw [if_pos x, if_pos x, e194]
      · rw [if_neg x, if_neg x, c5 _ (by omega) (by omega)]
        congr 1
        omega
    · simp only [if_neg y]
      by_cases x : i < 148
      · rw [if_pos x, if_pos x, e194]
      · rw [if_neg x, if_neg x, c4 j _ j0 (by omega) (by omega) (by omega)]
def kpM (a b : Int) : Bool := stM a b || (a == 213 && decide (0 ≤ b))
theorem kpM_lay1 : refT.all (fun q => !(kpM q.1 q.2.1)) = true := by decide +kernel
theorem kpM_lay2 : lenT.all (fun q => !(kpM q.1 (-1))) = true := by decide +kernel
theorem keeps_ok {h : hH} (hL : Lay h) {m : Int} (hm : h 192 44 = m) (m0 : 0 ≤ m) (m1 : m ≤ 8) : ∃ h', fX12_keeps h 192 = some h' ∧ Fr kpM h h' ∧ UndM h' (if m = 8 then 8 else m + 1) (push m (sl h) (h 194)) := by
  obtain ⟨g, g1, g2⟩ := tries_ok hL
  have fg : Fr kpM h g := by
    rw [g2]
    exact seg_fr (fun b hb => by unfold kpM; simp; omega) (by decide)
  have Lg : Lay g := fg.lay hL kpM_lay1 kpM_lay2
  have ga : ∀ a, a ≠ 213 → g a = h a := fun a ha => by rw [g2, seg_off ha]
  obtain ⟨h', c1, c2, c3⟩ := stores_sl (m := m) Lg (ll_213 Lg) (by decide) (by rw [ga _ (by decide)]; exact hm) m0 m1
  unfold fX12_keeps
  rw [g1]
  simp only [Option.bind_some]
  rw [ly_192_45 Lg, c1]
  refine ⟨h', rfl, fg.tr (c2.mono (fun a b z => by unfold kpM; rw [z]; rfl)), c3.1, fun j j0 j1 i i0 i1 => ?_⟩
  rw [c3.2 j j0 j1 i i0 i1]
  have e1 : sl g = sl h := by
    funext j i
    unfold sl slA
    rw [ga 194 (by decide), ga 212 (by decide)]
  have e2 : slA g 213 0 i = h 194 i := by
    unfold slA
    by_cases x : i < 148
    · rw [if_pos x, ga 194 (by decide)]
    · rw [if_neg x, g2, seg_in (by omega) (by omega)]
      congr 1
      omega
  unfold push
  rw [e1]
  by_cases z : m = 8
  · simp only [if_pos z]
    by_cases y : j = 7
    · rw [if_pos y, if_pos y, e2]
    · rw [if_neg y, if_neg y]
  · simp only [if_neg z]
    by_cases y : j = m
    · rw [if_pos y, if_pos y, e2]
    · rw [if_neg y, if_neg y]
/-- the cells of a transaction's calls -/
def trC (a b : Int) : Bool := stC 13 a b || undC a b || kpM a b || (a == 194 && decide (148 ≤ b) && decide (b < 1239)) || (a == 192 && b == 0)
theorem trC_lay1 : refT.all (fun q => !(trC q.1 q.2.1)) = true := by decide +kernel
theorem trC_lay2 : lenT.all (fun q => !(trC q.1 (-1))) = true := by decide +kernel
theorem fr_s {h h' : hH} {C : Int → Int → Bool} (e : ∀ a, a ≠ 194 → h' a = h a) (es : ∀ i, i < 148 ∨ 1239 ≤ i → h' 194 i = h 194 i) (hc : ∀ b, 148 ≤ b → b < 1239 → C 194 b = true) : Fr C h h' := by
  intro a b z
  by_cases x : a = 194
  · subst x
    refine es b ?_
    refine Classical.byContradiction (fun y => ?_)
    rw [hc b (by omega) (by omega)] at z
    cases z
  · exact congrFun (e a x) b
theorem beginS_o {S : Int → Int} {i : Int} (h : i < 148 ∨ 1239 ≤ i) : beginS S i = S i := by unfold beginS; rw [if_neg (by omega), if_neg (by omega), if_neg (by omega)]
theorem backS_o {S : Int → Int} {i : Int} (h : i < 148 ∨ 1239 ≤ i) : backS S i = S i := by unfold backS; rw [if_neg (by omega), if_neg (by omega), if_neg (by omega), if_neg (by omega)]
theorem commitS_o {S : Int → Int} {i : Int} (h : i < 148 ∨ 1239 ≤ i) : commitS S i = S i := by unfold commitS; rw [if_neg (by omega), if_neg (by omega)]
theorem sl_eq {h h' : hH} (e : h' 212 = h 212) (es : ∀ i, i < 148 → h' 194 i = h 194 i) : sl h' = sl h := by
  funext j i
  unfold sl slA
  by_cases x : i < 148
  · rw [if_pos x, if_pos x, es i x]
  · rw [if_neg x, if_neg x, e]
theorem undC_out {a b : Int} (h : (a < 74 ∨ 150 ≤ a) ∧ a ≠ 0) : undC a b = false := by
  unfold undC
  simp
  omega
theorem stC13_out {a b : Int} (h : a < 13 ∨ 21 < a) : stC 13 a b = false := by
  unfold stC rwC
  simp
  omega
theorem kpM_out {a b : Int} (h : a < 192 ∨ a = 194 ∨ a = 193 ∨ 213 < a) : kpM a b = false := by
  unfold kpM stM
  simp
  omega
section CALLS
variable {h : hH}
/-- one more state is kept: both sides -/
theorem keep2 (hL : Lay h) (h1 : SchI h) (h2 : StI h) (h3 : UndI h) : ∃ u g V, fX11_keepForUndo h 0 13 = some g ∧ UndC g u V ∧ Fr undC h g ∧ (∀ j, 0 ≤ j → j < u → StOk (V j)) ∧ ∀ g', (∀ a, a = 192 ∨ a = 194 ∨ a = 212 → ∀ b, (a, b) ≠ (192, 0) → (a, b) ≠ (192, 26) → (a, b) ≠ (192, 41) → g' a b = h a b) → Lay g' → ∃ k, fX12_keeps g' 192 = some k ∧ Fr kpM g' k ∧ UndM k u V := by
  obtain ⟨u, c1, c2, c3⟩ := h3
  obtain ⟨g, g1, g2, g3⟩ := keep_ok hL c1 (Or.inl rfl) h2.1
  refine ⟨_, g, _, g1, g2, g3, fun j j0 j1 => push_ok c3 h2.2 j j0 j1, fun g' hg' Lg' => ?_⟩
  obtain ⟨k, k1, k2, k3⟩ := keeps_ok (m := u) Lg' (by rw [hg' 192 (by omega) 44 (by decide) (by decide) (by decide)]; exact c2) c1.2.1 c1.2.2.1
  refine ⟨k, k1, k2, k3.1, fun j j0 j1 i i0 i1 => ?_⟩
  rw [k3.2 j j0 j1 i i0 i1]
  have e1 : sl g' = sl h := sl_eq (funext (fun b => hg' 212 (by omega) b (by simp) (by simp) (by simp))) (fun i _ => hg' 194 (by omega) i (by simp) (by simp) (by simp))
  have e2 : g' 194 = h 194 := funext (fun b => hg' 194 (by omega) b (by simp) (by simp) (by simp))
  rw [e1, e2]
theorem begin_ok (hL : Lay h) (h1 : SchI h) (h2 : StI h) (h3 : UndI h) : ∃ r h' h'', fX11_begin h 0 = some (r, h') ∧ fX12_begin h' 192 = some (r, h'') ∧ StI h'' ∧ UndI h'' ∧ Fr trC h h'' := by
  have e2 := ly_0_2 hL
  have eon := h2.1.2.2.1
  unfold fX11_begin fX12_begin
  rw [e2, eon]
  by_cases z : h 194 149 = 0
  · rw [if_pos z]
    obtain ⟨u, g, V, g1, g2, g3, g4, g5⟩ := keep2 hL h1 h2 h3
    have Lg : Lay g := g3.lay hL undC_lay1 undC_lay2
    have gs : ∀ a, ((a < 74 ∨ 150 ≤ a) ∧ a ≠ 0) → g a = h a := fun a ha => g3.row a (fun b => undC_out ha)
    have g0 : g 0 2 = 13 := ly_0_2 Lg
    have gst : StH g 13 (h 194) := StH.sameL (fun a a0 a1 => gs a (by omega)) h2.1
    obtain ⟨k, k1, k2, k3⟩ := start_ok Lg gst z
    rw [g1]
    simp only [Option.bind_some]
    rw [g0, k1]
    simp only [Option.bind_some, pput]
    have ks : ∀ a, (a < 13 ∨ 21 < a) → k a = g a := fun a ha => k3.row a (fun b => stC13_out ha)
    refine ⟨0, k, ?_⟩
    generalize hq : hup k 192 0 0 = q
    have qa : ∀ a, a ≠ 192 → q a = k a := fun a ha => by rw [← hq, hup_off ha]
    have q0 : ∀ b, b ≠ 0 → q 192 b = h 192 b := fun b hb => by rw [← hq, hup_ne (fun y => hb y.2), ks _ (by omega), gs _ (by omega)]
    have Lk : Lay k := k3.lay Lg stC13_lay1 stC13_lay2
    have Lq : Lay q := by rw [← hq]; exact Lk.upF (by decide)
    have qs : q 194 = h 194 := by rw [qa _ (by decide), ks _ (by omega), gs _ (by omega)]
    rw [sgk Lq (k := 149) (by decide) (by decide), qs, z]
    simp only [Option.bind_some, if_neg (show ¬ (0 : Int) = 1 by decide)]
    obtain ⟨x, x1, x2, x3⟩ := g5 q (fun a ha b hb _ _ => by
      rcases ha with rfl | rfl | rfl
      · exact q0 b (fun y => hb (by rw [y]))
      · rw [qs]
      · rw [qa _ (by decide), ks _ (by omega), gs _ (by omega)]) Lq
    rw [x1]
    simp only [Option.bind_some]
    have Lx : Lay x := x2.lay Lq kpM_lay1 kpM_lay2
    obtain ⟨y, y1, y2, y3⟩ := begins_ok Lx
    rw [y1]
    have xs : x 194 = h 194 := (x2.row 194 (fun b => kpM_out (by omega))).trans qs
    rw [xs] at y2
    have xc : ∀ a, a < 192 → x a = k a := fun a ha => (x2.row a (fun b => kpM_out (by omega))).trans (qa a (by omega))
    refine ⟨y, trivial, rfl, ⟨?_, ?_⟩, ?_, ?_⟩
    · rw [y2]
      exact StH.sameL (fun a a0 a1 => (y3 a (by omega)).trans (xc a (by omega))) k2
    · rw [y2]
      exact h2.2.begin h1.2.1.2
    · refine und_asm (V := V) g2 ?_ (fun a ha => ?_) ⟨?_, fun j j0 j1 => ?_⟩ g4 ?_
      · rw [y3 _ (by decide), xc _ (by decide), ks _ (by omega)]
      · rw [y3 _ (by omega), xc _ (by omega), ks _ (by omega)]
      · rw [y3 _ (by decide)]; exact x3.1
      · rw [sl_eq (h := x) (y3 _ (by decide)) (fun i hi => by rw [y2, xs, beginS_o (Or.inl hi)])]
        exact x3.2 j j0 j1
      · rw [y2, beginS_o (by decide)]; exact h1.2.1.2
    · refine (((g3.mono (fun a b w => ?_)).tr (k3.mono (fun a b w => ?_))).tr ((?_ : Fr trC k q).tr (x2.mono (fun a b w => ?_)))).tr (fr_s y3 (fun i hi => by rw [y2, xs, beginS_o hi]) (fun b b0 b1 => ?_))
      · unfold trC; rw [w]; simp
      · unfold trC; rw [w]; simp
      · rw [← hq]; exact Fr.up (by decide)
      · unfold trC; rw [w]; simp
      · unfold trC; simp; omega
  · have h9 : h 194 149 = 1 := h2.2.2.1.resolve_left z
    rw [if_neg z]
    simp only [Option.bind_some, pput]
    have Lq : Lay (hup h 192 0 0) := hL.upF (by decide)
    refine ⟨1, h, ?_⟩
    rw [sgk Lq (k := 149) (by decide) (by decide), hup_off (by decide), h9]
    simp only [Option.bind_some, if_true]
    have qa : ∀ a, a ≠ 192 → hup h 192 0 0 a = h a := fun a ha => hup_off ha
    refine ⟨_, trivial, rfl, ?_, ?_, Fr.up (by decide)⟩
    · unfold StI
      rw [qa _ (by decide)]
      exact ⟨StH.sameL (fun a a0 a1 => qa a (by omega)) h2.1, h2.2⟩
    · obtain ⟨u, c1, c2, c3⟩ := h3
      exact und_asm c1 (by rw [qa _ (by decide)]) (fun a ha => qa a (by omega)) ⟨by rw [hup_ne (by decide)]; exact c2, fun j j0 j1 => by
        rw [sl_eq (h := h) (qa _ (by decide)) (fun i hi => by rw [qa _ (by decide)])]
        exact fun _ _ _ => rfl⟩ c3 (by rw [qa _ (by decide)]; exact h1.2.1.2)
theorem back_ok (hL : Lay h) (h1 : SchI h) (h2 : StI h) (h3 : UndI h) : ∃ r h' h'', fX11_back h 0 = some (r, h') ∧ fX12_back h' 192 = some (r, h'') ∧ StI h'' ∧ UndI h'' ∧ Fr trC h h'' := by
  have e2 := ly_0_2 hL
  have eon := h2.1.2.2.1
  unfold fX11_back fX12_back
  rw [e2, eon]
  by_cases z : h 194 149 = 1
  · rw [if_neg (by omega)]
    obtain ⟨u, g, V, g1, g2, g3, g4, g5⟩ := keep2 hL h1 h2 h3
    have Lg : Lay g := g3.lay hL undC_lay1 undC_lay2
    have gs : ∀ a, ((a < 74 ∨ 150 ≤ a) ∧ a ≠ 0) → g a = h a := fun a ha => g3.row a (fun b => undC_out ha)
    have g0 : g 0 2 = 13 := ly_0_2 Lg
    have gst : StH g 13 (h 194) := StH.sameL (fun a a0 a1 => gs a (by omega)) h2.1
    obtain ⟨k, k1, k2, k3⟩ := goBack_ok Lg gst z
    rw [g1]
    simp only [Option.bind_some]
    rw [g0, k1]
    simp only [Option.bind_some, pput]
    have ks : ∀ a, (a < 13 ∨ 21 < a) → k a = g a := fun a ha => k3.row a (fun b => stC13_out ha)
    refine ⟨0, k, ?_⟩
    generalize hq : hup k 192 0 0 = q
    have qa : ∀ a, a ≠ 192 → q a = k a := fun a ha => by rw [← hq, hup_off ha]
    have q0 : ∀ b, b ≠ 0 → q 192 b = h 192 b := fun b hb => by rw [← hq, hup_ne (fun y => hb y.2), ks _ (by omega), gs _ (by omega)]
    have Lk : Lay k := k3.lay Lg stC13_lay1 stC13_lay2
    have Lq : Lay q := by rw [← hq]; exact Lk.upF (by decide)
    have qs : q 194 = h 194 := by rw [qa _ (by decide), ks _ (by omega), gs _ (by omega)]
    rw [sgk Lq (k := 149) (by decide) (by decide), qs, z]
    simp only [Option.bind_some, if_neg (show ¬ (1 : Int) = 0 by decide)]
    obtain ⟨x, x1, x2, x3⟩ := g5 q (fun a ha b hb _ _ => by
      rcases ha with rfl | rfl | rfl
      · exact q0 b (fun y => hb (by rw [y]))
      · rw [qs]
      · rw [qa _ (by decide), ks _ (by omega), gs _ (by omega)]) Lq
    rw [x1]
    simp only [Option.bind_some]
    have Lx : Lay x := x2.lay Lq kpM_lay1 kpM_lay2
    obtain ⟨y, y1, y2, y3⟩ := backs_ok Lx
    rw [y1]
    have xs : x 194 = h 194 := (x2.row 194 (fun b => kpM_out (by omega))).trans qs
    rw [xs] at y2
    have xc : ∀ a, a < 192 → x a = k a := fun a ha => (x2.row a (fun b => kpM_out (by omega))).trans (qa a (by omega))
    refine ⟨y, trivial, rfl, ⟨?_, ?_⟩, ?_, ?_⟩
    · rw [y2]
      exact StH.sameL (fun a a0 a1 => (y3 a (by omega)).trans (xc a (by omega))) k2
    · rw [y2]
      exact h2.2.back h1.2.1.2 z
    · refine und_asm (V := V) g2 ?_ (fun a ha => ?_) ⟨?_, fun j j0 j1 => ?_⟩ g4 ?_
      · rw [y3 _ (by decide), xc _ (by decide), ks _ (by omega)]
      · rw [y3 _ (by omega), xc _ (by omega), ks _ (by omega)]
      · rw [y3 _ (by decide)]; exact x3.1
      · rw [sl_eq (h := x) (y3 _ (by decide)) (fun i hi => by rw [y2, xs, backS_o (Or.inl hi)])]
        exact x3.2 j j0 j1
      · rw [y2, backS_o (by decide)]; exact h1.2.1.2
    · refine (((g3.mono (fun a b w => ?_)).tr (k3.mono (fun a b w => ?_))).tr ((?_ : Fr trC k q).tr (x2.mono (fun a b w => ?_)))).tr (fr_s y3 (fun i hi => by rw [y2, xs, backS_o hi]) (fun b b0 b1 => ?_))
      · unfold trC; rw [w]; simp
      · unfold trC; rw [w]; simp
      · rw [← hq]; exact Fr.up (by decide)
      · unfold trC; rw [w]; simp
      · unfold trC; simp; omega
  · have h9 : h 194 149 = 0 := h2.2.2.1.resolve_right z
    rw [if_pos h9]
    simp only [Option.bind_some, pput]
    have Lq : Lay (hup h 192 0 0) := hL.upF (by decide)
    refine ⟨1, h, ?_⟩
    rw [sgk Lq (k := 149) (by decide) (by decide), hup_off (by decide), h9]
    simp only [Option.bind_some, if_true]
    have qa : ∀ a, a ≠ 192 → hup h 192 0 0 a = h a := fun a ha => hup_off ha
    refine ⟨_, trivial, rfl, ?_, ?_, Fr.up (by decide)⟩
    · unfold StI
      rw [qa _ (by decide)]
      exact ⟨StH.sameL (fun a a0 a1 => qa a (by omega)) h2.1, h2.2⟩
    · obtain ⟨u, c1, c2, c3⟩ := h3
      exact und_asm c1 (by rw [qa _ (by decide)]) (fun a ha => qa a (by omega)) ⟨by rw [hup_ne (by decide)]; exact c2, fun j j0 j1 => by
        rw [sl_eq (h := h) (qa _ (by decide)) (fun i hi => by rw [qa _ (by decide)])]
        exact fun _ _ _ => rfl⟩ c3 (by rw [qa _ (by decide)]; exact h1.2.1.2)
end CALLS
