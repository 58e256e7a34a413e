/-! JUDGING, the model's: what lies ahead, what is to be -/
def jmC (a b : Int) : Bool := ((a == 203 || a == 204 || a == 205 || a == 206) && decide (0 ≤ b)) || (a == 192 && (b == 26 || b == 31 || b == 32 || b == 33 || b == 34 || b == 35))
theorem jm_lay1 : refT.all (fun q => !(jmC q.1 q.2.1)) = true := by decide +kernel
theorem jm_lay2 : lenT.all (fun q => !(jmC q.1 (-1))) = true := by decide +kernel
/-- what stays while the model judges: the layout, what is so, the line -/
def MC (S T : Int → Int) (to : Int) (h : hH) : Prop := Lay h ∧ h 194 = S ∧ (0 ≤ to ∧ to + 20 ≤ 800) ∧ ∀ i, 0 ≤ i → i < 20 → h 197 (to + i) = T i
theorem MC.fr {S T : Int → Int} {to : Int} {h h' : hH} (hM : MC S T to h) (hf : Fr jmC h h') : MC S T to h' := by
  obtain ⟨a, b, c, d⟩ := hM
  have e1 : h' 194 = h 194 := hf.row _ (fun b => by unfold jmC; simp)
  have e2 : h' 197 = h 197 := hf.row _ (fun b => by unfold jmC; simp)
  exact ⟨hf.lay a jm_lay1 jm_lay2, e1.trans b, c, fun i i0 i1 => by rw [e2]; exact d i i0 i1⟩
section MJ
variable {S T G : Int → Int} {to : Int} {h : hH}
theorem MC.s (hM : MC S T to h) {i : Int} (i0 : 0 ≤ i) (i1 : i < 1420) : aget h (h 192 6) i = some (S i) := by rw [sgk hM.1 i0 i1, hM.2.1]
theorem MC.ln (hM : MC S T to h) {i : Int} (i0 : 0 ≤ i) (i1 : i < 20) : aget h (h 192 9) (to + i) = some (T i) := by
  obtain ⟨a, -, c, d⟩ := hM
  rw [ly_192_9 a, aget_in (by omega) (by rw [ll_197 a]; omega), d i i0 i1]
theorem MC.l0 (hM : MC S T to h) : aget h (h 192 9) to = some (T 0) := by
  have := hM.ln (i := 0) (by decide) (by decide)
  rwa [Int.add_zero] at this
theorem laysAhead_ok (hs : SOk S) (hM : MC S T to h) : ∃ h', fX12_laysAhead h 192 = some h' ∧ Fr jmC h h' ∧ (∀ j, j ≠ 0 → h' 192 j = h 192 j) ∧ h' 206 = h 206 ∧ (∀ q, 0 ≤ q → q < 99 → h' 205 q = -1) ∧ (∀ j, 0 ≤ j → j < 396 → h' 203 j = -9) ∧ ∀ q f, 0 ≤ q → q < 99 → 0 ≤ f → f < S 2 → h' 204 (6 * q + f) = if S (150 + q) = 1 then aheadS S q f else -1 := by
  have h2 := hs.2.2.1
  unfold fX12_laysAhead
  refine lpO_inv (f := fX12_laysAhead_s2 h 192) (h := h) 99 (fun r h' => Fr jmC h h' ∧ (∀ a, a ≠ 203 → a ≠ 204 → a ≠ 205 → h' a = h a) ∧ (∀ q, 0 ≤ q → q < r → h' 205 q = -1) ∧ (∀ j, 0 ≤ j → j < 4 * r → h' 203 j = -9) ∧ ∀ q f, 0 ≤ q → q < r → 0 ≤ f → f < S 2 → h' 204 (6 * q + f) = if S (150 + q) = 1 then aheadS S q f else -1) _ (fun r h' r0 r1 hI => ?_) (fun h' hI => ?_) (Int.le_refl _) (by decide) ⟨Fr.rf, fun _ _ _ _ => rfl, fun q a b => by omega, fun j a b => by omega, fun q f a b => by omega⟩
  · obtain ⟨I1, I2, I3, I4, I5⟩ := hI
    have hM' := hM.fr I1
    have L' := hM'.1
    unfold fX12_laysAhead_s2
    dsimp only
    rw [if_pos r1, ly_192_29 L', aput_in r0 (by rw [ll_205 L']; omega)]
    simp only [Option.bind_some]
    generalize hg : hup h' 205 r (-1) = g
    have fg : Fr jmC h g := I1.tr (by rw [← hg]; exact Fr.up (by unfold jmC; simp; omega))
    have ga : ∀ a, a ≠ 205 → g a = h' a := fun a ha => by rw [← hg, hup_off ha]
    have g5 : ∀ q, 0 ≤ q → q < r + 1 → g 205 q = -1 := fun q a b => by
      rw [← hg]
      by_cases e : q = r
      · rw [e, hup_at]
      · rw [hup_ne (fun z => e z.2)]; exact I3 q a (by omega)
    have inner := lpO_inv (f := fX12_laysAhead_s17 g 192 r) (h := g) 4 (fun c x => Fr jmC h x ∧ (∀ a, a ≠ 203 → x a = g a) ∧ ∀ j, 0 ≤ j → j < 4 * r + c → x 203 j = -9) (fun res => ∃ x, res = .inl (x, r + 1) ∧ Fr jmC h x ∧ (∀ a, a ≠ 203 → a ≠ 204 → x a = g a) ∧ (∀ j, 0 ≤ j → j < 4 * (r + 1) → x 203 j = -9) ∧ (∀ q f, 0 ≤ q → q < r → 0 ≤ f → f < S 2 → x 204 (6 * q + f) = g 204 (6 * q + f)) ∧ ∀ f, 0 ≤ f → f < S 2 → x 204 (6 * r + f) = if S (150 + r) = 1 then aheadS S r f else -1) (fun c x c0 c1 hK => ?_) (fun x hK => ?_) (Int.le_refl _) (by decide) ⟨fg, fun _ _ => rfl, fun j a b => by rw [ga _ (by decide)]; exact I4 j a (by omega)⟩
    · obtain ⟨res, q1, x, q2, q3, q4, q5, q6, q7⟩ := inner
      refine ⟨x, by rw [q1, q2], q3, fun a a1 a2 a3 => ?_, fun q a b => ?_, q5, fun q f a b c d => ?_⟩
      · rw [q4 a a1 a2, ga a a3]; exact I2 a a1 a2 a3
      · rw [q4 _ (by decide) (by decide)]; exact g5 q a b
      · by_cases e : q = r
        · rw [e]; exact q7 f c d
        · rw [q6 q f a (by omega) c d, ga _ (by decide)]; exact I5 q f a (by omega) c d
    · obtain ⟨K1, K2, K3⟩ := hK
      have Lx := (hM.fr K1).1
      unfold fX12_laysAhead_s17
      dsimp only
      rw [if_pos c1, ly_192_27 Lx, w32_id (x := 4 * r) (by omega) (by omega), w32_id (by omega) (by omega), aput_in (by omega) (by rw [ll_203 Lx]; omega)]
      simp only [Option.bind_some]
      rw [w1 (by omega) (by omega)]
      refine ⟨_, rfl, K1.tr (Fr.up (by unfold jmC; simp; omega)), fun a ha => by rw [hup_off ha]; exact K2 a ha, fun j a b => ?_⟩
      by_cases e : j = 4 * r + c
      · rw [e, hup_at]
      · rw [hup_ne (fun z => e z.2)]; exact K3 j a (by omega)
    · obtain ⟨K1, K2, K3⟩ := hK
      have third := lpO_inv (f := fX12_laysAhead_s42 x 192 r) (h := x) (S 2) (fun f y => Fr jmC h y ∧ (∀ a, a ≠ 204 → y a = x a) ∧ (∀ q f, 0 ≤ q → q < r → 0 ≤ f → f < S 2 → y 204 (6 * q + f) = g 204 (6 * q + f)) ∧ ∀ f', 0 ≤ f' → f' < f → y 204 (6 * r + f') = if S (150 + r) = 1 then aheadS S r f' else -1) (fun res => ∃ y, res = .inl (y, r + 1) ∧ Fr jmC h y ∧ (∀ a, a ≠ 204 → y a = x a) ∧ (∀ q f, 0 ≤ q → q < r → 0 ≤ f → f < S 2 → y 204 (6 * q + f) = g 204 (6 * q + f)) ∧ ∀ f', 0 ≤ f' → f' < S 2 → y 204 (6 * r + f') = if S (150 + r) = 1 then aheadS S r f' else -1) (fun f y f0 f1 hN => ?_) (fun y hN => ?_) (Int.le_refl _) h2.1 ⟨K1, fun _ _ => rfl, fun q f a b c d => by rw [K2 _ (by decide)], fun f' a b => by omega⟩
      · obtain ⟨res, q1, y, q2, q3, q4, q5, q6⟩ := third
        unfold fX12_laysAhead_s17
        dsimp only
        rw [if_neg (by decide), q1, q2]
        refine ⟨_, rfl, y, rfl, q3, fun a a1 a2 => by rw [q4 a a2]; exact K2 a a1, fun j a b => by rw [q4 _ (by decide)]; exact K3 j a (by omega), q5, q6⟩
      · obtain ⟨N1, N2, N3, N4⟩ := hN
        have hMy := hM.fr N1
        have Ly := hMy.1
        have put1 : ∀ v, (aput y (y 192 28) (6 * r + f) v) = some (hup y 204 (6 * r + f) v) := fun v => by rw [ly_192_28 Ly, aput_in (by omega) (by rw [ll_204 Ly]; omega)]
        unfold fX12_laysAhead_s42 fX12_laysAhead_b107 fX12_laysAhead_b108
        simp (disch := omega) only [w32_id, hMy.s, if_pos f1, Option.bind_some, put1]
        have go : ∀ v, v = (if S (150 + r) = 1 then aheadS S r f else -1) → ∃ h', (some (Sum.inl (hup y 204 (6 * r + f) v, f + 1)) : Option ((hH × Int) ⊕ ((hH × Int) ⊕ hH))) = some (Sum.inl (h', f + 1)) ∧ Fr jmC h h' ∧ (∀ a, a ≠ 204 → h' a = x a) ∧ (∀ q f, 0 ≤ q → q < r → 0 ≤ f → f < S 2 → h' 204 (6 * q + f) = g 204 (6 * q + f)) ∧ ∀ f', 0 ≤ f' → f' < f + 1 → h' 204 (6 * r + f') = if S (150 + r) = 1 then aheadS S r f' else -1 := fun v hv => by
          refine ⟨_, rfl, N1.tr (Fr.up (by unfold jmC; simp; omega)), fun a ha => by rw [hup_off ha]; exact N2 a ha, fun q f' a b c d => by rw [hup_ne (by omega)]; exact N3 q f' a b c d, fun f' a b => ?_⟩
          by_cases e : f' = f
          · rw [e, hup_at]; exact hv
          · rw [hup_ne (by omega)]; exact N4 f' a (by omega)
        have ea : aheadS S r f = if S (249 + r) = S (58 + f) then tgS S r f else -1 := rfl
        by_cases a : S (150 + r) = 1
        · rw [if_pos a]
          by_cases b : S (58 + f) = S (249 + r)
          · rw [if_pos b]
            have := target_ok Ly (by rw [hMy.2.1]; exact hs) r0 r1 f0 (by rw [hMy.2.1]; exact f1)
            rw [hMy.2.1] at this
            rw [this]
            simp only [Option.bind_some, put1]
            exact go _ (by rw [if_pos a, ea, if_pos b.symm])
          · rw [if_neg b]
            exact go _ (by rw [if_pos a, ea, if_neg (fun z => b z.symm)])
        · rw [if_neg a]
          exact go _ (by rw [if_neg a])
      · obtain ⟨N1, N2, N3, N4⟩ := hN
        have hMy := hM.fr N1
        unfold fX12_laysAhead_s42
        simp (disch := omega) only [w32_id, hMy.s, if_neg (Int.lt_irrefl _), Option.bind_some]
        exact ⟨_, rfl, y, rfl, N1, N2, N3, N4⟩
  · obtain ⟨I1, I2, I3, I4, I5⟩ := hI
    unfold fX12_laysAhead_s2
    dsimp only
    rw [if_neg (by decide)]
    exact ⟨h', rfl, I1, fun j _ => by rw [I2 _ (by decide) (by decide) (by decide)], I2 _ (by decide) (by decide) (by decide), I3, fun j a b => I4 j a (by omega), I5⟩
theorem isFound_ok (hs : SOk S) (hT : LOk S T) (hM : MC S T to h) {q : Int} (q0 : 0 ≤ q) (q1 : q < 99) : ∃ b, fX12_isFound h 192 q to = some b ∧ Bt b (S (150 + q) = 1 ∧ fndS S T q) := by
  obtain ⟨-, t1, t7, tc, -⟩ := hT
  have hw := hs.2.2.2.2.1 _ t1.1 t1.2
  have hto := hM.2.2.1
  have ln : ∀ i, 0 ≤ i → i < 20 → aget h (h 192 9) (to + i) = some (T i) := fun i a b => hM.ln a b
  unfold fX12_isFound
  rw [w32_id (x := to + 1) (by omega) (by omega), ln 1 (by decide) (by decide)]
  simp only [Option.bind_some]
  rw [isRowOf_ok hM.1 q0 q1, hM.2.1]
  simp only [Option.bind_some]
  refine lpO_invG (f := fX12_isFound_s17 h 192 q to) (fun k (b : Int) => (b, k)) (T 7) (fun k b => Bt b (S (150 + q) = 1 ∧ S (249 + q) = T 1 ∧ ∀ j, 0 ≤ j → j < k → cndS S T q j)) (fun b => Bt b (S (150 + q) = 1 ∧ fndS S T q)) (fun k b k0 k1 hI => ?_) (fun b hI => ?_) (Int.le_refl _) t7.1 ?_
  · obtain ⟨c0, c1, c2⟩ := tc k k0 k1
    unfold fX12_isFound_s17 fX12_isFound_b95
    dsimp only
    rw [w32_id (x := to + 7) (by omega) (by omega), ln 7 (by decide) (by decide)]
    simp only [Option.bind_some]
    rw [if_pos k1]
    rcases hI with ⟨rfl, z⟩ | ⟨rfl, z⟩
    · rw [if_neg (by decide), w32_id (x := to + 8) (by omega) (by omega), w32_id (x := 3 * k) (by omega) (by omega), w32_id (x := to + 8 + 3 * k) (by omega) (by omega), w32_id (x := to + 8 + 3 * k + 2) (by omega) (by omega), w32_id (x := to + 8 + 3 * k + 1) (by omega) (by omega), show to + 8 + 3 * k = to + (8 + 3 * k) by omega, ln (8 + 3 * k) (by omega) (by omega)]
      simp only [Option.bind_some]
      rw [cellOf_ok hM.1 q0 q1 c0.1 (by omega), hM.2.1]
      simp only [Option.bind_some]
      rw [show to + (8 + 3 * k) + 2 = to + (8 + 3 * k + 2) by omega, show to + (8 + 3 * k) + 1 = to + (8 + 3 * k + 1) by omega, ln (8 + 3 * k + 2) (by omega) (by omega), ln (8 + 3 * k + 1) (by omega) (by omega)]
      simp only [Option.bind_some]
      rw [w1 (by omega) (by omega)]
      have nxt : ∀ b, Bt b (cndS S T q k) → Bt b (S (150 + q) = 1 ∧ S (249 + q) = T 1 ∧ ∀ j, 0 ≤ j → j < k + 1 → cndS S T q j) := fun b hb => hb.iff ⟨fun y => ⟨z.1, z.2.1, fun j a c => by
        by_cases e : j = k
        · rw [e]; exact y
        · exact z.2.2 j a (by omega)⟩, fun y => y.2.2 k k0 (by omega)⟩
      by_cases a : T (8 + 3 * k + 2) < 0
      · rw [if_pos a]
        have ec : cndS S T q k ↔ (S (348 + (4 * q + T (8 + 3 * k))) < 0 ∧ T (8 + 3 * k + 1) = 61) := by unfold cndS; rw [if_pos a]
        by_cases b : S (348 + (4 * q + T (8 + 3 * k))) < 0
        · rw [if_pos b]
          by_cases c : T (8 + 3 * k + 1) = 61
          · rw [if_pos c]
            exact Or.inl ⟨1, rfl, nxt 1 (Or.inl ⟨rfl, ec.mpr ⟨b, c⟩⟩)⟩
          · rw [if_neg c]
            exact Or.inl ⟨0, rfl, nxt 0 (Or.inr ⟨rfl, fun y => c (ec.mp y).2⟩)⟩
        · rw [if_neg b]
          exact Or.inl ⟨0, rfl, nxt 0 (Or.inr ⟨rfl, fun y => b (ec.mp y).1⟩)⟩
      · rw [if_neg a]
        have ec : cndS S T q k ↔ (0 ≤ S (348 + (4 * q + T (8 + 3 * k))) ∧ soS (T (8 + 3 * k + 1)) (S (348 + (4 * q + T (8 + 3 * k)))) (T (8 + 3 * k + 2))) := by unfold cndS; rw [if_neg a]
        by_cases b : S (348 + (4 * q + T (8 + 3 * k))) < 0
        · rw [if_pos b]
          exact Or.inl ⟨0, rfl, nxt 0 (Or.inr ⟨rfl, fun y => by have := (ec.mp y).1; omega⟩)⟩
        · rw [if_neg b]
          obtain ⟨x, x1, x2⟩ := isSo_ok (h := h) (s := T (8 + 3 * k + 1)) (a := S (348 + (4 * q + T (8 + 3 * k)))) (b := T (8 + 3 * k + 2))
          rw [x1]
          simp only [Option.bind_some]
          rcases x2 with ⟨rfl, y⟩ | ⟨rfl, y⟩
          · rw [if_neg (by decide)]
            exact Or.inl ⟨1, rfl, nxt 1 (Or.inl ⟨rfl, ec.mpr ⟨by omega, y⟩⟩)⟩
          · rw [if_pos rfl]
            exact Or.inl ⟨0, rfl, nxt 0 (Or.inr ⟨rfl, fun w => y (ec.mp w).2⟩)⟩
    · rw [if_pos rfl]
      exact Or.inr ⟨0, rfl, Or.inr ⟨rfl, fun y => z ⟨y.1, y.2.1, fun j a c => y.2.2 j a (by omega)⟩⟩⟩
  · unfold fX12_isFound_s17
    dsimp only
    rw [w32_id (x := to + 7) (by omega) (by omega), ln 7 (by decide) (by decide)]
    simp only [Option.bind_some]
    rw [if_neg (Int.lt_irrefl _)]
    exact ⟨b, rfl, hI⟩
  · by_cases z : S (150 + q) = 1 ∧ S (249 + q) = T 1
    · rw [if_pos z]
      exact Or.inl ⟨rfl, z.1, z.2, fun j a b => by omega⟩
    · rw [if_neg z]
      exact Or.inr ⟨rfl, fun y => z ⟨y.1, y.2.1⟩⟩
def EncM (h : hH) (st : WS) : Prop := (∀ j, 0 ≤ j → j < 396 → h 203 j = st.1 j) ∧ h 192 35 = st.2.1 ∧ h 192 34 = st.2.2
def wtC (a b : Int) : Bool := (a == 203 && decide (0 ≤ b)) || (a == 192 && (b == 34 || b == 35))
theorem wt_jm {a b : Int} (z : wtC a b = true) : jmC a b = true := by
  unfold wtC at z; unfold jmC; simp at z ⊢; omega
theorem wantsM_ok (hL : Lay h) {st : WS} (hE : EncM h st) {q c x : Int} (q0 : 0 ≤ q) (q1 : q < 99) (c0 : 0 ≤ c) (c1 : c < 4) : ∃ h', fX12_wants h 192 q c x = some h' ∧ Fr wtC h h' ∧ EncM h' (wantS st q c x) := by
  obtain ⟨e1, e2, e3⟩ := hE
  unfold fX12_wants fX12_wants_b54 fX12_wants_b59 wantS
  rw [w32_id (x := 4 * q) (by omega) (by omega), w32_id (by omega) (by omega), ly_192_27 hL, aget_in (by omega) (by rw [ll_203 hL]; omega), e1 _ (by omega) (by omega), if_neg (show ¬ c < 0 by omega)]
  simp only [Option.bind_some]
  by_cases a : st.1 (4 * q + c) = -9
  · rw [if_pos a, if_pos a, aput_in (by omega) (by rw [ll_203 hL]; omega)]
    simp only [Option.bind_some, pput]
    refine ⟨_, rfl, Fr.tr (Fr.up (by unfold wtC; simp; omega)) (Fr.up (by decide)), fun j j0 j1 => ?_, hup_at, ?_⟩
    · rw [hup_off (by decide)]
      dsimp only [upW]
      by_cases e : j = 4 * q + c
      · rw [e, hup_at, if_pos rfl]
      · rw [hup_ne (fun z => e z.2), if_neg e]; exact e1 j j0 j1
    · rw [hup_ne (by decide), hup_off (by decide)]; exact e3
  · rw [if_neg a, if_neg a, e3]
    simp only [pput, Option.bind_some]
    have res : ∀ v, ∃ h', some (hup h 192 34 v) = some h' ∧ Fr wtC h h' ∧ (∀ j, 0 ≤ j → j < 396 → h' 203 j = st.1 j) ∧ h' 192 35 = st.2.1 ∧ h' 192 34 = v := fun v => ⟨_, rfl, Fr.up (by decide), fun j j0 j1 => by rw [hup_off (by decide)]; exact e1 j j0 j1, by rw [hup_ne (by decide)]; exact e2, hup_at⟩
    unfold EncM
    dsimp only
    by_cases b : st.2.2 = 0
    · rw [if_pos b]
      by_cases d : st.1 (4 * q + c) = x
      · rw [if_pos d, if_pos ⟨b, d⟩]; exact res 0
      · rw [if_neg d, if_neg (fun z => d z.2)]; exact res 1
    · rw [if_neg b, if_neg (fun z => b z.1)]; exact res 1
theorem EncM.of {h' : hH} {st : WS} (hE : EncM h st) (e : h' 203 = h 203) (e5 : h' 192 35 = h 192 35) (e4 : h' 192 34 = h 192 34) : EncM h' st := ⟨by rw [e]; exact hE.1, e5.trans hE.2.1, e4.trans hE.2.2⟩
theorem wantsAll_ok (hs : SOk S) (hM : MC S T to h) {st : WS} (hE : EncM h st) {q f re : Int} (q0 : 0 ≤ q) (q1 : q < 99) (f0 : 0 ≤ f) (f1 : f < S 2) (hr : re = 0 ∨ re = 1) : ∃ h', fX12_wantsAll h 192 q f re = some h' ∧ Fr wtC h h' ∧ EncM h' (allS S st q f (2 + re)) := by
  have hF := hs.2.2.2.2.2.2.2.2.1 f f0 f1
  have hw := hs.2.2.2.2.1 _ hF.1.1 hF.1.2
  have h4 := hs.1
  have h2 := hs.2.2.1
  -- one column
  have col : ∀ (g : hH) (st : WS) (j c : Int), Fr wtC h g → EncM g st → 0 ≤ j → j < 2 → c = (if j = 0 then S (64 + f) else S (70 + f)) → ∃ g', fX12_wantsAll_s3 h 192 q f re (g, j) = some (.inl (g', j + 1)) ∧ Fr wtC h g' ∧ EncM g' (wantS st q c (if re = 0 then -1 else S (8 + (4 * S (58 + f) + c)))) := by
    intro g st j c fg gE j0 j1 hc
    have hMg := hM.fr (fg.mono (fun a b z => wt_jm z))
    have hc2 : c < 4 := by rw [hc]; split <;> omega
    unfold fX12_wantsAll_s3 fX12_wantsAll_b57
    dsimp only
    rw [if_pos j1]
    have ec : fX12_refCol g 192 f j = some c := by
      unfold fX12_refCol
      rw [hc]
      by_cases e : j = 0
      · rw [if_pos e, if_pos e, w32_id (by omega) (by omega), hMg.s (by omega) (by omega)]
        rfl
      · rw [if_neg e, if_neg e, w32_id (by omega) (by omega), hMg.s (by omega) (by omega)]
        rfl
    rw [ec]
    simp only [Option.bind_some]
    rw [w1 (by omega) (by omega)]
    by_cases a : c < 0
    · rw [if_pos a]
      refine ⟨g, rfl, fg, ?_⟩
      unfold wantS
      rw [if_pos a]; exact gE
    · rw [if_neg a]
      have go : ∀ x, ∃ g', ((fX12_wants g 192 q c x).bind fun h57 => some (Sum.inl (β := hH) (h57, j + 1))) = some (.inl (g', j + 1)) ∧ Fr wtC h g' ∧ EncM g' (wantS st q c x) := fun x => by
        obtain ⟨g', k1, k2, k3⟩ := wantsM_ok (x := x) hMg.1 gE q0 q1 (by omega) hc2
        exact ⟨g', by rw [k1]; rfl, fg.tr k2, k3⟩
      rcases hr with rfl | rfl
      · simp only [if_true]
        exact go (-1)
      · simp only [if_neg (show ¬ (1 : Int) = 0 by decide)]
        rw [w32_id (x := 58 + f) (by omega) (by omega), hMg.s (by omega) (by omega)]
        simp only [Option.bind_some]
        rw [w32_id (x := 4 * S (58 + f)) (by omega) (by omega), w32_id (x := 8 + 4 * S (58 + f)) (by omega) (by omega), w32_id (by omega) (by omega), show 8 + 4 * S (58 + f) + c = 8 + (4 * S (58 + f) + c) by omega, hMg.s (by omega) (by omega)]
        simp only [Option.bind_some]
        exact go _
  obtain ⟨g1, k1, k2, k3⟩ := col h st 0 (S (64 + f)) Fr.rf hE (by decide) (by decide) (by rw [if_pos rfl])
  obtain ⟨g2, m1, m2, m3⟩ := col g1 _ 1 (S (70 + f)) k2 k3 (by decide) (by decide) (by rw [if_neg (by decide)])
  unfold fX12_wantsAll
  rw [lpO_inl k1, show (0 : Int) + 1 = 1 from rfl, lpO_inl m1]
  refine ⟨g2, lpO_inr ?_, m2, ?_⟩
  · unfold fX12_wantsAll_s3
    dsimp only
    rw [if_neg (by decide)]
  · unfold allS
    rcases hr with rfl | rfl
    · rw [if_pos (by decide)]
      rw [if_pos rfl, if_pos rfl] at m3
      exact m3
    · rw [if_neg (by decide), if_pos (by decide)]
      rw [if_neg (by decide), if_neg (by decide)] at m3
      exact m3
theorem isOther_ok (hM : MC S T to h) {W : Int → Int} (hE : ∀ j, 0 ≤ j → j < 396 → h 203 j = W j) {q c : Int} (q0 : 0 ≤ q) (q1 : q < 99) (c0 : 0 ≤ c) (c1 : c < 4) : ∃ b, fX12_isOther h 192 q c = some b ∧ Bt b (othS S W q c) := by
  have hL := hM.1
  unfold fX12_isOther othS
  rw [w32_id (x := 4 * q) (by omega) (by omega), w32_id (by omega) (by omega), ly_192_27 hL, aget_in (by omega) (by rw [ll_203 hL]; omega), hE _ (by omega) (by omega)]
  simp only [Option.bind_some]
  by_cases a : W (4 * q + c) = -9
  · rw [if_pos a]
    exact ⟨0, rfl, Or.inr ⟨rfl, fun z => z.1 a⟩⟩
  · rw [if_neg a, cellOf_ok hL q0 q1 c0 c1, hM.2.1]
    simp only [Option.bind_some]
    by_cases b : W (4 * q + c) = S (348 + (4 * q + c))
    · rw [if_pos b]
      exact ⟨0, rfl, Or.inr ⟨rfl, fun z => z.2 b⟩⟩
    · rw [if_neg b]
      exact ⟨1, rfl, Or.inl ⟨rfl, a, b⟩⟩
theorem keyCol_ok (hs : SOk S) (hM : MC S T to h) {k : Int} (k0 : 0 ≤ k) (k1 : k < S 1) : fX12_keyCol h 192 k 0 = some (S (46 + k)) ∧ fX12_keyCol h 192 k 1 = some (S (52 + k)) := by
  have h1 := hs.2.1
  unfold fX12_keyCol
  rw [if_pos rfl, if_neg (by decide), w32_id (by omega) (by omega), w32_id (by omega) (by omega), hM.s (by omega) (by omega), hM.s (by omega) (by omega)]
  exact ⟨rfl, rfl⟩
theorem refCol_ok (hs : SOk S) (hM : MC S T to h) {f : Int} (f0 : 0 ≤ f) (f1 : f < S 2) : fX12_refCol h 192 f 0 = some (S (64 + f)) ∧ fX12_refCol h 192 f 1 = some (S (70 + f)) := by
  have h1 := hs.2.2.1
  unfold fX12_refCol
  rw [if_pos rfl, if_neg (by decide), w32_id (by omega) (by omega), w32_id (by omega) (by omega), hM.s (by omega) (by omega), hM.s (by omega) (by omega)]
  exact ⟨rfl, rfl⟩
theorem followsKey_ok (hs : SOk S) (hM : MC S T to h) {st : WS} (hE : EncM h st) {q f a : Int} (q0 : 0 ≤ q) (q1 : q < 99) (f0 : 0 ≤ f) (f1 : f < S 2) (a0 : 0 ≤ a) (a1 : a < 99) : ∃ h', fX12_followsKey h 192 q f a = some h' ∧ Fr wtC h h' ∧ EncM h' (@ite WS (oneS S st.1 f a ∨ twoS S st.1 f a) (Classical.propDecidable _) (if S (94 + f) = 1 then folS S st q f a else allS S st q f (S (94 + f))) st) := by
  have hF := hs.2.2.2.2.2.2.2.2.1 f f0 f1
  have hw := hs.2.2.2.2.1 _ hF.1.1 hF.1.2
  have hk := hs.2.2.2.2.2.2.2.1 _ hF.2.2.2.2.1.1 hF.2.2.2.2.1.2
  have hw2 := hs.2.2.2.2.1 _ hk.1.1 hk.1.2
  have h2 := hs.2.2.1
  obtain ⟨kc0, kc1⟩ := keyCol_ok hs hM hF.2.2.2.2.1.1 hF.2.2.2.2.1.2
  have s94 : aget h (h 192 6) (w32 (94 + f)) = some (S (94 + f)) := by rw [w32_id (by omega) (by omega), hM.s (by omega) (by omega)]
  unfold fX12_followsKey
  rw [w32_id (x := 82 + f) (by omega) (by omega), hM.s (by omega) (by omega)]
  simp only [Option.bind_some]
  rw [kc0]
  simp only [Option.bind_some]
  obtain ⟨x, x1, x2⟩ := isOther_ok hM hE.1 a0 a1 hk.2.1.1 (show S (46 + S (82 + f)) < 4 by omega)
  rw [x1, kc1]
  simp only [Option.bind_some]
  have x3 : Bt x (oneS S st.1 f a) := x2
  have go : ∀ y, Bt y (twoS S st.1 f a) → ∃ h', fX12_followsKey_b55 h 192 q f a (S (82 + f)) x y = some h' ∧ Fr wtC h h' ∧ EncM h' (@ite WS (oneS S st.1 f a ∨ twoS S st.1 f a) (Classical.propDecidable _) (if S (94 + f) = 1 then folS S st q f a else allS S st q f (S (94 + f))) st) := by
    intro y hy
    have run : (oneS S st.1 f a ∨ twoS S st.1 f a) → ∃ h', fX12_followsKey_b68 h 192 q f a (S (82 + f)) x y = some h' ∧ Fr wtC h h' ∧ EncM h' (@ite WS (oneS S st.1 f a ∨ twoS S st.1 f a) (Classical.propDecidable _) (if S (94 + f) = 1 then folS S st q f a else allS S st q f (S (94 + f))) st) := by
      intro hot
      rw [if_pos hot]
      unfold fX12_followsKey_b68 fX12_followsKey_b102
      rw [s94]
      simp only [Option.bind_some]
      by_cases on1 : 1 < S (94 + f)
      · rw [if_pos on1, if_neg (show ¬ S (94 + f) = 1 by omega)]
        have all : ∀ re, (re = 0 ∨ re = 1) → S (94 + f) = 2 + re → ∃ h', ((fX12_wantsAll h 192 q f re).bind fun h102 => fX12_followsKey_b105 h102 192 q f a (S (82 + f)) x y) = some h' ∧ Fr wtC h h' ∧ EncM h' (allS S st q f (S (94 + f))) := by
          intro re hre e
          obtain ⟨g, g1, g2, g3⟩ := wantsAll_ok hs hM hE q0 q1 f0 f1 hre
          have hMg := hM.fr (g2.mono (fun a b z => wt_jm z))
          rw [g1]
          simp only [Option.bind_some]
          unfold fX12_followsKey_b105
          rw [w32_id (by omega) (by omega), hMg.s (by omega) (by omega)]
          simp only [Option.bind_some]
          rw [if_neg (by omega), e]
          exact ⟨g, rfl, g2, g3⟩
        by_cases e3 : S (94 + f) = 3
        · rw [if_pos e3]
          exact all 1 (Or.inr rfl) (by omega)
        · rw [if_neg e3]
          exact all 0 (Or.inl rfl) (by omega)
      · rw [if_neg on1]
        unfold fX12_followsKey_b105
        rw [s94]
        simp only [Option.bind_some]
        by_cases on : S (94 + f) = 1
        · rw [if_pos on, if_pos on]
          have second : ∀ (g : hH) (st1 : WS), Fr wtC h g → EncM g st1 → ∃ h', fX12_followsKey_b151 g 192 q f a (S (82 + f)) y = some h' ∧ Fr wtC h h' ∧ EncM h' (@ite WS (twoS S st.1 f a) (Classical.propDecidable _) (wantS st1 q (S (70 + f)) (st1.1 (4 * a + S (52 + S (82 + f))))) st1) := by
            intro g st1 fg gE
            have hMg := hM.fr (fg.mono (fun a b z => wt_jm z))
            unfold fX12_followsKey_b151
            rcases hy with ⟨rfl, z⟩ | ⟨rfl, z⟩
            · have h52 := z.1
              have h70 : 0 ≤ S (70 + f) := by
                have := hF.2.2.2.2.2.2.1
                omega
              rw [if_neg (by decide), if_pos z, (refCol_ok hs hMg f0 f1).2]
              simp only [Option.bind_some]
              rw [(keyCol_ok hs hMg hF.2.2.2.2.1.1 hF.2.2.2.2.1.2).2]
              simp only [Option.bind_some]
              rw [w32_id (x := 4 * a) (by omega) (by omega), w32_id (by omega) (by omega), ly_192_27 hMg.1, aget_in (by omega) (by rw [ll_203 hMg.1]; omega), gE.1 _ (by omega) (by omega)]
              simp only [Option.bind_some]
              obtain ⟨k, k1, k2, k3⟩ := wantsM_ok (x := st1.1 (4 * a + S (52 + S (82 + f)))) hMg.1 gE q0 q1 h70 (show S (70 + f) < 4 by omega)
              rw [k1]
              exact ⟨k, rfl, fg.tr k2, k3⟩
            · rw [if_pos rfl, if_neg z]
              exact ⟨g, rfl, fg, gE⟩
          unfold folS
          rcases x3 with ⟨rfl, z⟩ | ⟨rfl, z⟩
          · have eA : folA S st q f a = wantS st q (S (64 + f)) (st.1 (4 * a + S (46 + S (82 + f)))) := by unfold folA; rw [if_pos z]
            rw [eA, if_neg (by decide), (refCol_ok hs hM f0 f1).1]
            simp only [Option.bind_some]
            rw [kc0]
            simp only [Option.bind_some]
            rw [w32_id (x := 4 * a) (by omega) (by omega), w32_id (by omega) (by omega), ly_192_27 hM.1, aget_in (by omega) (by rw [ll_203 hM.1]; omega), hE.1 _ (by omega) (by omega)]
            simp only [Option.bind_some]
            obtain ⟨k, k1, k2, k3⟩ := wantsM_ok (x := st.1 (4 * a + S (46 + S (82 + f)))) hM.1 hE q0 q1 hF.2.1.1 (show S (64 + f) < 4 by omega)
            rw [k1]
            exact second k _ k2 k3
          · have eA : folA S st q f a = st := by unfold folA; rw [if_neg z]
            rw [eA, if_pos rfl]
            exact second h st Fr.rf hE
        · rw [if_neg on, if_neg on]
          refine ⟨h, rfl, Fr.rf, ?_⟩
          unfold allS
          rw [if_neg (by omega), if_neg (by omega)]
          exact hE
    unfold fX12_followsKey_b55
    rcases x3 with ⟨rfl, z⟩ | ⟨rfl, z⟩
    · rw [if_neg (by decide)]
      exact run (Or.inl z)
    · rw [if_pos rfl]
      rcases hy with ⟨rfl, w⟩ | ⟨rfl, w⟩
      · rw [if_neg (by decide)]
        exact run (Or.inr w)
      · rw [if_pos rfl, if_neg (fun u => u.elim z w)]
        exact ⟨h, rfl, Fr.rf, hE⟩
  unfold fX12_followsKey_b54
  by_cases b : S (52 + S (82 + f)) < 0
  · rw [if_pos b]
    exact go 0 (Or.inr ⟨rfl, fun z => by have := z.1; omega⟩)
  · rw [if_neg b]
    obtain ⟨y, y1, y2⟩ := isOther_ok hM hE.1 a0 a1 (show 0 ≤ S (52 + S (82 + f)) by omega) (show S (52 + S (82 + f)) < 4 by omega)
    rw [y1]
    simp only [Option.bind_some]
    have y3 : Bt y (twoS S st.1 f a) := y2.iff ⟨fun z => ⟨by omega, z⟩, fun z => z.2⟩
    rcases y3 with ⟨rfl, z⟩ | ⟨rfl, z⟩
    · rw [if_neg (by decide)]
      exact go 1 (Or.inl ⟨rfl, z⟩)
    · rw [if_pos rfl]
      exact go 0 (Or.inr ⟨rfl, z⟩)
end MJ
