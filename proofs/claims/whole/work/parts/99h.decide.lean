/-! STATEMENT, WOULD: the text reads. What both parts of judging say, together -/
theorem RowsS.len {h : hH} {r : Int} {S : Int → Int} (hR : RowsS h r S) : (liv S).length ≤ 40 := by
  have e : liv S = (rng 0 (h r 0)).map (h (r + 1)) := alv_eq hR
  have h0 := hR.1
  have h1 := hR.2.1
  rw [e, List.length_map, rng_len]
  omega
theorem JudK.of {v : Int} {S T : Int → Int} {k e : hH} (hK : JudK v S T k) (ee : ∀ a, v ≤ a → a < v + 13 → e a = k a) : JudK v S T e := by
  obtain ⟨k4, k5, k6, k7, k8, k9, k10, k11, k12⟩ := hK
  have ev := ee v (by omega) (by omega)
  have e5 := ee (v + 5) (by omega) (by omega)
  have e6 := ee (v + 5 + 1) (by omega) (by omega)
  have e7 := ee (v + 7) (by omega) (by omega)
  have e8 := ee (v + 8) (by omega) (by omega)
  have e1 := ee (v + 1) (by omega) (by omega)
  refine ⟨by rw [ev]; exact k4, by rw [ev]; exact k5, by rw [ev]; exact k6, by rw [ev]; exact k7, fun i q hq => by rw [e7, e8]; exact k8 i q hq, by rw [ev]; exact k9, fun z => by rw [ev]; exact k10 z, ?_, fun a b => ⟨RowsR.same (k12 a b).1 (by rw [e1]) (ee _ (by omega) (by omega)) (ee _ (by omega) (by omega)) (ee _ (by omega) (by omega)), by rw [e1]; exact (k12 a b).2⟩⟩
  unfold VioC at k11 ⊢
  rw [e5, e6]
  exact k11
theorem JudK.len {v : Int} {S T : Int → Int} {k : hH} (hK : JudK v S T k) (a : ¬ noRm S T) (b : ¬ clsh S T) : (liv (newS S T)).length ≤ 40 := RowsS.len (hK.2.2.2.2.2.2.2.2 a b).1
theorem why0 {S T : Int → Int} (h : whyS S T = 0) : ¬ noRm S T ∧ ¬ clsh S T := by
  unfold whyS at h
  by_cases n : noRm S T
  · rw [if_pos n] at h; omega
  · rw [if_neg n] at h
    by_cases c : clsh S T
    · rw [if_pos c] at h; omega
    · exact ⟨n, c⟩
theorem why_b {S T : Int → Int} (hr : VRng (vioN S T)) : 0 ≤ whyS S T ∧ whyS S T ≤ 6 := by
  unfold whyS
  split
  · omega
  · split
    · omega
    · unfold hdK
      split
      · omega
      · rename_i x l hx
        have := hr x (by rw [hx]; exact List.mem_cons_self)
        omega
theorem chg_b {S T : Int → Int} (hb : (liv S).length ≤ 40) : 0 ≤ chgS S T ∧ chgS S T ≤ 40 := by
  unfold chgS
  have : ((liv S).filter (fun q => @decide (GS S T q < 0 ∧ ∃ c, 0 ≤ c ∧ c < 4 ∧ othS S (PS S T).1 q c) (Classical.propDecidable _))).length ≤ (liv S).length := List.length_filter_le _ _
  omega
theorem ch5_b {S T : Int → Int} (hb : (liv S).length ≤ 40) : 0 ≤ chS5 S T ∧ chS5 S T ≤ 40 := by
  unfold chS5
  have := chg_b (T := T) hb
  split <;> omega
theorem go_b {S T : Int → Int} (hb : (liv S).length ≤ 40) : (goS S T).length ≤ 40 := Nat.le_trans (List.length_filter_le _ _) hb
theorem tc_eq {S T : Int → Int} (hw : whyS S T = 0) (hs : SOk S) (hT : LOk S T) : ((goS S T).length : Int) + chS5 S T + (if T 0 = 0 then 1 else 0) = tcS S T := by
  obtain ⟨n, c⟩ := why0 hw
  unfold tcS chS5
  by_cases hk : T 0 = 0
  · have go0 : goS S T = [] := by
      unfold goS
      rw [List.filter_eq_nil_iff]
      intro q _
      rw [GS_ins hk q]
      decide
    rw [if_pos hk, if_pos hk, if_pos (Or.inl hk), go0]
    rfl
  · have pc : ¬ (PS S T).2.2 = 1 := fun y => c ⟨hk, y⟩
    rw [if_neg hk, if_neg hk, if_neg (fun y => y.elim hk pc)]
    omega
/-- the class takes over what would be -/
theorem takeThen {v : Int} {S T : Int → Int} {k : hH} (hv : JV v) (hL : Lay k) (hs : SOk S) (hT : LOk S T) (hH : StH k 13 S) (hO : StOk S) (hn : ¬ noRm S T) (hR : RowsS k (v + 1) (newS S T)) (hm : k (v + 1) 1 = newS S T 148) : ∃ k', fX3_copyFrom k 14 (v + 1) = some k' ∧ StH k' 13 (newS S T) ∧ StOk (newS S T) ∧ Fr (rwC 14) k k' := by
  have hJ := (jAt hL hv).2.2.1
  obtain ⟨k', c1, c2, c3⟩ := copyRows_ok hJ (stAt_13 hL).2.2.1 (by rcases hv with rfl | rfl <;> omega)
  have hO' := new_st hs hO hT hn (RowsS.len hR)
  have elo : ∀ i, i < 148 ∨ i = 149 ∨ 744 ≤ i → newS S T i = S i := fun i hi => new_lo hO.1 hn hi
  have k13 : k' 13 = k 13 := c3.row 13 (fun b => rwC_far (by omega))
  have far : ∀ a, 18 ≤ a → k' a = k a := fun a ha => c3.row a (fun b => rwC_far (by omega))
  refine ⟨k', c1, ⟨RowsR.cp hR c2, by rw [← hm]; exact c2.2.1, by rw [k13, elo 149 (by omega)]; exact hH.2.2.1, fun z => ?_⟩, hO', c3⟩
  rw [elo 149 (by omega)] at z
  have a5 := (new_val hs hO hT hn).2.2.2.2
  have p2 := (hO.2.2.2.2.2.2 z).2.1
  have hB : BegR k' 18 S := RowsR.same (hH.2.2.2 z) (by rw [far 18 (by decide)]) (far _ (by decide)) (far _ (by decide)) (far _ (by decide))
  refine RowsR.cong hB (fun q q0 q1 => ?_) (fun q q0 q1 hq => ?_) (fun q c q0 q1 hq d0 d1 => ?_)
  · rw [elo _ (by omega)]
  · rw [a5 q q0 (p2 q q0 q1 hq)]
  · rw [elo _ (by omega)]
/-- the model keeps a row for undo, as the class keeps a state -/
theorem push_cong {u : Int} {U : Int → Int → Int} {X X' : Int → Int} (e : EqS X X') (j : Int) : EqS (push u U X j) (push u U X' j) := fun i i0 i1 => by
  unfold push
  split
  · split
    · exact e i i0 i1
    · rfl
  · split
    · exact e i i0 i1
    · rfl
theorem stores3 {e : hH} {A u : Int} {U : Int → Int → Int} {X : Int → Int} (hL : Lay e) (hA : e A (-1) = 1091) (hA2 : A ≠ 212 ∧ A ≠ 192) (hm : e 192 44 = u) (u0 : 0 ≤ u) (u8 : u ≤ 8) (hU : sl e = U) (hX : ∀ i, 0 ≤ i → i < 148 → e 194 i = X i) (hX2 : ∀ i, 0 ≤ i → i < 1091 → e A i = X (148 + i)) : ∃ x, fX12_stores e 192 A = some x ∧ Fr stM e x ∧ UndM x (if u = 8 then 8 else u + 1) (push u U X) := by
  obtain ⟨x, x1, x2, x3, x4⟩ := stores_sl hL hA hA2 hm u0 u8
  refine ⟨x, x1, x2, x3, fun j j0 j1 i i0 i1 => ?_⟩
  rw [x4 j j0 j1 i i0 i1, hU]
  refine push_cong (fun i i0 i1 => ?_) j i i0 i1
  unfold slA
  by_cases z : i < 148
  · rw [if_pos z]; exact hX i i0 z
  · rw [if_neg z, show 0 + (i - 148) = i - 148 by omega, hX2 _ (by omega) (by omega)]
    congr 1
    omega
theorem stM_lay1 : refT.all (fun q => !(stM q.1 q.2.1)) = true := by decide +kernel
theorem stM_lay2 : lenT.all (fun q => !(stM q.1 (-1))) = true := by decide +kernel
theorem stM_row {h h' : hH} (hf : Fr stM h h') {a : Int} (h1 : a ≠ 192) (h2 : a ≠ 212) : h' a = h a := hf.row a (fun b => by unfold stM; simp; omega)
/-- the model reads, judges and tells the one statement -/
def onF (a b : Int) : Bool := rsM a b || jmF a b || tlC a b
theorem onF_row {h h' : hH} (hf : Fr onF h h') {a : Int} (ha : a < 192 ∨ a = 193 ∨ a = 195 ∨ a = 196 ∨ a = 198 ∨ a = 199 ∨ 211 < a) : h' a = h a := hf.row a (fun b => by unfold onF rsM lnM txF nxC jmF jmC tlC telC; simp; omega)
theorem oneM {h c k K : hH} {w : Int} (hL : Lay h) (hT : TapeR h) (hR : Res0 h) (h1 : SchI h) (h2 : StI h) (hn : NamR h h 4 0 (h 194)) (hr : fX2_readStatement h 37 = some (1, c)) (hk : ∀ T, LOk (h 194) T → LinC (h 194) c 0 T → JudK 39 (h 194) T k ∧ w = whyS (h 194) T) (LK : Lay K) (eK : ∀ a, 39 ≤ a → a < 52 → K a = k a) (eM : ∀ a, 192 ≤ a → K a = h a) : ∃ T g m e, LOk (h 194) T ∧ JudK 39 (h 194) T k ∧ w = whyS (h 194) T ∧ VRng (vioN (h 194) T) ∧ fX12_readsOne K 192 = some (1, g) ∧ fX12_judges g 192 0 = some (w, m) ∧ fX12_tells m 192 w = some e ∧ Lay e ∧ Fr onF K e ∧ e 192 2 = 0 ∧ e 192 16 = 0 ∧ JudI e ∧ LatV e ∧ e 194 = (if w = 0 then newS (h 194) T else h 194) ∧ (∀ i, 0 ≤ i → i < 1091 → e 206 i = h 194 (148 + i)) ∧ e 192 32 = (goS (h 194) T).length ∧ e 192 33 = chS5 (h 194) T ∧ e 197 0 = T 0 := by
  have hP := PI.of hL h1 hn
  obtain ⟨b, c', p1, p2, p3, p4, p5⟩ := readOne1 hL hT hR hP
  have e := hr.symm.trans p1
  have e1 : 1 = b ∧ c = c' := by injection e with x; injection x with x y; exact ⟨x, y⟩
  obtain ⟨rfl, rfl⟩ := e1
  obtain ⟨g, q1, q2, q3, q4, q5⟩ := p5 K LK (by rw [eM 192 (by decide)]) (eM 193 (by decide)) (eM 199 (by decide)) (eM 194 (by decide)) (eM 198 (by decide))
  rcases q5 with ⟨z, -⟩ | ⟨-, -, g16, lo, li⟩
  · omega
  generalize hTT : (fun q => g 197 (0 + q)) = T at lo li
  obtain ⟨hJ, hw⟩ := hk T lo li
  have g194 : g 194 = h 194 := by rw [q3.row 194 (fun b => by unfold rsM lnM txF nxC; simp), eM 194 (by decide)]
  have hM : MC (h 194) T 0 g := ⟨q2, g194, ⟨by decide, by decide⟩, fun i _ _ => by rw [← hTT]⟩
  have hb := h2.2.2.2.2.2.2.1
  have hlen : ¬ noRm (h 194) T → ¬ clsh (h 194) T → (liv (newS (h 194) T)).length ≤ 40 := fun a b => hJ.len a b
  obtain ⟨vl, vr⟩ := vioN_ok (T := T) h1.2 h2.2 hlen
  obtain ⟨m, m1, Lm, m2, m31, m32, m33, mG, mV, m206, m194⟩ := judgesM_ok h1.2 h2.2 lo hlen hM
  obtain ⟨e, e1, e2, e42, r0, r1, r2, r3, r8, r41, rv⟩ := tells_ok (why := whyS (h 194) T) Lm mG mV vl
  have Le := e2.lay Lm tlC_1 tlC_2
  have fe : Fr onF K e := (q3.mono (fun a b z => by unfold onF; rw [z]; rfl)).tr ((m2.mono (fun a b z => by unfold onF; rw [z]; simp)).tr (e2.mono (fun a b z => by unfold onF; rw [z]; simp)))
  obtain ⟨ji, lv⟩ := told_inv (e := e) (hJ.of (fun a a0 a1 => by rw [onF_row fe (by omega), eK a a0 (by omega)])) hb vl vr e42 r0 (by rw [r1, m31]) (by rw [r2, m32]) (by rw [r3, m33]) r8 r41 rv
  have em : ∀ a, a ≠ 192 → a ≠ 207 → a ≠ 208 → a ≠ 209 → a ≠ 210 → a ≠ 211 → e a = m a := fun a a1 a2 a3 a4 a5 a6 => e2.row a (fun b => by unfold tlC telC; simp; omega)
  have m197 : m 197 = g 197 := m2.row 197 (fun b => by unfold jmF jmC; simp)
  refine ⟨T, g, m, e, lo, hJ, hw, vr, q1, by rw [hw]; exact m1, by rw [hw]; exact e1, Le, fe, ?_, ?_, ji, lv, ?_, fun i i0 i1 => ?_, ?_, ?_, ?_⟩
  · rw [e2 192 2 (by decide), m2 192 2 (by decide)]; exact q4
  · rw [e2 192 16 (by decide), m2 192 16 (by decide)]; exact g16
  · rw [em 194 (by decide) (by decide) (by decide) (by decide) (by decide) (by decide), m194, hw]
  · rw [em 206 (by decide) (by decide) (by decide) (by decide) (by decide) (by decide)]; exact m206 i i0 i1
  · rw [e2 192 32 (by decide)]; exact m32
  · rw [e2 192 33 (by decide)]; exact m33
  · rw [em 197 (by decide) (by decide) (by decide) (by decide) (by decide) (by decide), m197, ← hTT]
    rfl
