/-! JUDGING, the class's: places, what is found -/
def JAt (h : hH) (v : Int) : Prop := (h v 0 = 4 ∧ h v 1 = 13 ∧ h v 2 = v + 1 ∧ h v 3 = v + 5 ∧ h v 11 = v + 7 ∧ h v 12 = v + 8 ∧ h v 13 = v + 9 ∧ h v 14 = v + 10 ∧ h v 15 = v + 11 ∧ h v 16 = v + 12) ∧ (h (v + 7) (-1) = 40 ∧ h (v + 8) (-1) = 40 ∧ h (v + 9) (-1) = 40 ∧ h (v + 10) (-1) = 240 ∧ h (v + 11) (-1) = 160 ∧ h (v + 12) (-1) = 160) ∧ RowsAt h (v + 1) ∧ VioAt h (v + 5)
def jugC (v a b : Int) : Bool := (a == v && decide (4 ≤ b) && decide (b ≤ 10)) || rwC (v + 1) a b || (a == v + 5 && b == 0) || (a == v + 6 && decide (0 ≤ b)) || (decide (v + 7 ≤ a) && decide (a ≤ v + 12) && decide (0 ≤ b))
theorem jug39_lay1 : refT.all (fun q => !(jugC 39 q.1 q.2.1)) = true := by decide +kernel
theorem jug39_lay2 : lenT.all (fun q => !(jugC 39 q.1 (-1))) = true := by decide +kernel
theorem jug52_lay1 : refT.all (fun q => !(jugC 52 q.1 q.2.1)) = true := by decide +kernel
theorem jug52_lay2 : lenT.all (fun q => !(jugC 52 q.1 (-1))) = true := by decide +kernel
abbrev JV (v : Int) : Prop := v = 39 ∨ v = 52
theorem jAt {h : hH} {v : Int} (hL : Lay h) (hv : JV v) : JAt h v := by
  rcases hv with rfl | rfl
  · exact ⟨⟨ly_39_0 hL, ly_39_1 hL, ly_39_2 hL, ly_39_3 hL, ly_39_11 hL, ly_39_12 hL, ly_39_13 hL, ly_39_14 hL, ly_39_15 hL, ly_39_16 hL⟩, ⟨ll_46 hL, ll_47 hL, ll_48 hL, ll_49 hL, ll_50 hL, ll_51 hL⟩, ⟨ly_40_2 hL, ly_40_3 hL, ly_40_4 hL, ll_41 hL, ll_42 hL, ll_43 hL⟩, ly_44_1 hL, ll_45 hL⟩
  · exact ⟨⟨ly_52_0 hL, ly_52_1 hL, ly_52_2 hL, ly_52_3 hL, ly_52_11 hL, ly_52_12 hL, ly_52_13 hL, ly_52_14 hL, ly_52_15 hL, ly_52_16 hL⟩, ⟨ll_59 hL, ll_60 hL, ll_61 hL, ll_62 hL, ll_63 hL, ll_64 hL⟩, ⟨ly_53_2 hL, ly_53_3 hL, ly_53_4 hL, ll_54 hL, ll_55 hL, ll_56 hL⟩, ly_57_1 hL, ll_58 hL⟩
theorem jug_lay {h h' : hH} {v : Int} (hv : JV v) (hf : Fr (jugC v) h h') (hL : Lay h) : Lay h' := by
  rcases hv with rfl | rfl
  · exact hf.lay hL jug39_lay1 jug39_lay2
  · exact hf.lay hL jug52_lay1 jug52_lay2
theorem jug_out {v a b : Int} (h : a < v ∨ v + 12 < a) : jugC v a b = false := by
  unfold jugC rwC
  simp
  omega
theorem jug_row {h h' : hH} {v a : Int} (hf : Fr (jugC v) h h') (ha : a < v ∨ v + 12 < a) : h' a = h a := hf.row a (fun _ => jug_out ha)
/-- what stays through the judging: the layout, the rows of now, the schema, the lines -/
def JC (v : Int) (S N : Int → Int) (n : Int) (h : hH) : Prop := Lay h ∧ JAt h v ∧ Ctx4 h 14 4 S ∧ h 14 0 = n ∧ h 15 = N ∧ RD h 14 S n N ∧ h 13 0 = 14
theorem JC.mk {v : Int} {S : Int → Int} {h : hH} (hv : JV v) (hL : Lay h) (hc : Ctx4 h 14 4 S) : JC v S (h 15) (h 14 0) h := ⟨hL, jAt hL hv, hc, rfl, rfl, hc.rd, ly_13_0 hL⟩
theorem JC.fr {v n : Int} {S N : Int → Int} {h h' : hH} (hv : JV v) (hJ : JC v S N n h) (hf : Fr (jugC v) h h') : JC v S N n h' := by
  obtain ⟨hL, -, hc, h4, h5, -, -⟩ := hJ
  have L' := jug_lay hv hf hL
  have hc' : Ctx4 h' 14 4 S := hc.eq (fun k k0 k1 => jug_row hf (by rcases hv with rfl | rfl <;> omega)) (fun k k0 k1 => jug_row hf (by rcases hv with rfl | rfl <;> omega))
  have e14 : h' 14 0 = n := by rw [jug_row hf (by rcases hv with rfl | rfl <;> omega)]; exact h4
  have e15 : h' 15 = N := by rw [jug_row hf (by rcases hv with rfl | rfl <;> omega)]; exact h5
  have := JC.mk hv L' hc'
  rwa [e14, e15] at this
/-- one line -/
def LOk (S T : Int → Int) : Prop := (T 0 = 0 ∨ T 0 = 1 ∨ T 0 = 2) ∧ (0 ≤ T 1 ∧ T 1 < S 0) ∧ (0 ≤ T 7 ∧ T 7 ≤ 4) ∧ (∀ k, 0 ≤ k → k < T 7 → (0 ≤ T (8 + 3 * k) ∧ T (8 + 3 * k) < S (4 + T 1)) ∧ (T (8 + 3 * k + 1) = 60 ∨ T (8 + 3 * k + 1) = 61 ∨ T (8 + 3 * k + 1) = 62) ∧ -1 ≤ T (8 + 3 * k + 2) ∧ T (8 + 3 * k + 2) ≤ 99) ∧
  (T 0 = 0 → T 2 = 0 ∧ T 7 = 0 ∧ ∀ c, 0 ≤ c → c < S (4 + T 1) → -1 ≤ T (3 + c) ∧ T (3 + c) ≤ 99) ∧ (T 0 = 1 → T 2 = 0) ∧ (T 0 = 2 → (T 2 = 1 ∨ T 2 = 2) ∧ (0 ≤ T 3 ∧ T 3 < S (4 + T 1)) ∧ (-1 ≤ T 4 ∧ T 4 ≤ 99) ∧ (T 2 = 2 → (0 ≤ T 5 ∧ T 5 < S (4 + T 1)) ∧ T 5 ≠ T 3 ∧ -1 ≤ T 6 ∧ T 6 ≤ 99))
def LinC (S : Int → Int) (h : hH) (i : Int) (T : Int → Int) : Prop := (0 ≤ i ∧ i < 40) ∧ h 38 (19 * i) = (if T 0 = 0 then 141 else if T 0 = 1 then 142 else 145) ∧ h 38 (19 * i + 1) = T 1 ∧ h 38 (19 * i + 2) = T 7 ∧ (∀ k, 0 ≤ k → k < T 7 → h 38 (19 * i + (7 + 3 * k)) = T (8 + 3 * k) ∧ h 38 (19 * i + (7 + 3 * k + 1)) = T (8 + 3 * k + 1) ∧ h 38 (19 * i + (7 + 3 * k + 2)) = T (8 + 3 * k + 2)) ∧
  (T 0 = 0 → ∀ c, 0 ≤ c → c < 4 → h 38 (19 * i + (3 + c)) = if c < S (4 + T 1) then T (3 + c) else -1) ∧ (T 0 = 2 → h 38 (19 * i + 3) = T 3 ∧ h 38 (19 * i + 4) = T 4 ∧ (T 2 = 2 → h 38 (19 * i + 5) = T 5 ∧ h 38 (19 * i + 6) = T 6) ∧ (T 2 = 1 → h 38 (19 * i + 5) = -1))
theorem LinC.of {S : Int → Int} {h h' : hH} {i : Int} {T : Int → Int} (hl : LinC S h i T) (e : h' 38 = h 38) : LinC S h' i T := by
  unfold LinC at hl ⊢
  rw [e]; exact hl
theorem part_ok {h : hH} (hL : Lay h) {i p : Int} (i0 : 0 ≤ i) (i1 : i < 40) (p0 : 0 ≤ p) (p1 : p < 19) : fX2_part h 37 i p = some (h 38 (19 * i + p)) := by
  unfold fX2_part
  rw [w32_id (x := i * 19) (by omega) (by omega), w32_id (x := i * 19 + p) (by omega) (by omega), ly_37_3 hL, at_in (by omega) (by rw [ll_38 hL]; omega), show i * 19 + p = 19 * i + p by omega]
  rfl
def cndS (S T : Int → Int) (q k : Int) : Prop := if T (8 + 3 * k + 2) < 0 then S (348 + (4 * q + T (8 + 3 * k))) < 0 ∧ T (8 + 3 * k + 1) = 61 else 0 ≤ S (348 + (4 * q + T (8 + 3 * k))) ∧ soS (T (8 + 3 * k + 1)) (S (348 + (4 * q + T (8 + 3 * k)))) (T (8 + 3 * k + 2))
def fndS (S T : Int → Int) (q : Int) : Prop := S (249 + q) = T 1 ∧ ∀ k, 0 ≤ k → k < T 7 → cndS S T q k
theorem fill_ok {h : hH} {a x : Int} (l0 : 0 ≤ h a (-1)) (l1 : h a (-1) < 100000) : fJ7_fill_53178 h a x = some (seg h a 0 (h a (-1)) (fun _ => x)) := by
  unfold fJ7_fill_53178
  obtain ⟨r, r1, r2⟩ := cp_loop (f := fJ7_fill_53178_s5 h a x (h a (-1))) (h := h) a 0 (h a (-1)) (fun _ => x) (fun r => r = seg h a 0 (h a (-1)) (fun _ => x)) l0 (fun i h' i0 i1 hI => by
    have gl : h' a (-1) = h a (-1) := by rw [hI, seg_out (by omega)]
    unfold fJ7_fill_53178_s5
    dsimp only
    rw [if_pos i1, aput_in i0 (by omega), Int.zero_add]
    simp only [Option.bind_some]
    rw [w32_id (by omega) (by omega)]) (by
    unfold fJ7_fill_53178_s5
    dsimp only
    rw [if_neg (Int.lt_irrefl _)]
    exact ⟨_, rfl, rfl⟩)
  rw [r1, r2]
section JUDGE
variable {v n : Int} {S N : Int → Int} {h : hH}
theorem reset_ok (hv : JV v) (hL : Lay h) : ∃ h', fX1_reset h v = some h' ∧ Fr (jugC v) h h' ∧ (h' v 4 = 1 ∧ h' v 5 = 0 ∧ h' v 6 = 0 ∧ h' v 7 = 0 ∧ h' v 8 = 0 ∧ h' v 9 = 0) ∧ h' (v + 5) 0 = 0 ∧ (∀ i, 0 ≤ i → i < 40 → h' (v + 9) i = -1) ∧ ∀ j, 0 ≤ j → j < 160 → h' (v + 11) j = 0 := by
  obtain ⟨⟨-, -, -, j3, -, -, j13, -, j15, -⟩, ⟨-, -, l9, -, l11, -⟩, -, -⟩ := jAt hL hv
  unfold fX1_reset fX10_reset
  simp only [pput, Option.bind_some]
  generalize hg : hup (hup (hup (hup (hup (hup h v 4 1) v 5 0) v 6 0) v 7 0) v 8 0) v 9 0 = g
  have gv : ∀ j, g v j = if j = 4 then 1 else if 5 ≤ j ∧ j ≤ 9 then 0 else h v j := fun j => by
    rw [← hg]
    simp only [hup, true_and]
    repeat' split
    all_goals first | rfl | omega
  have ga : ∀ a, a ≠ v → g a = h a := fun a ha => by rw [← hg, hup_off ha, hup_off ha, hup_off ha, hup_off ha, hup_off ha, hup_off ha]
  rw [gv 3, if_neg (by decide), if_neg (by decide), j3]
  generalize hk : hup g (v + 5) 0 0 = k
  have ka : ∀ a, a ≠ v + 5 → k a = g a := fun a ha => by rw [← hk, hup_off ha]
  have kl : ∀ a, a ≠ v → k a (-1) = h a (-1) := fun a ha => by
    by_cases e : a = v + 5
    · rw [e, ← hk, hup_ne (by omega), ga _ (by omega)]
    · rw [ka a e, ga a ha]
  rw [ka v (by omega), gv 13, if_neg (by decide), if_neg (by decide), j13, fill_ok (by rw [kl _ (by omega), l9]; decide) (by rw [kl _ (by omega), l9]; decide), kl _ (by omega), l9]
  simp only [Option.bind_some]
  generalize hm : seg k (v + 9) 0 40 (fun _ => -1) = m
  have ma : ∀ a, a ≠ v + 9 → m a = k a := fun a ha => by rw [← hm, seg_off ha]
  rw [ma v (by omega), ka v (by omega), gv 15, if_neg (by decide), if_neg (by decide), j15, fill_ok (by rw [ma _ (by omega), kl _ (by omega), l11]; decide) (by rw [ma _ (by omega), kl _ (by omega), l11]; decide), ma _ (by omega), kl _ (by omega), l11]
  refine ⟨_, rfl, fun a b hab => ?_, ?_, ?_, fun i i0 i1 => ?_, fun j j0 j1 => seg_in (by omega) (by omega)⟩
  · unfold jugC rwC at hab
    simp at hab
    by_cases e0 : a = v + 11
    · subst e0
      rw [seg_out (by omega), ma _ (by omega), ka _ (by omega), ga _ (by omega)]
    · rw [seg_off e0]
      by_cases e1 : a = v + 9
      · subst e1
        rw [← hm, seg_out (by omega), ka _ (by omega), ga _ (by omega)]
      · rw [ma _ e1]
        by_cases e2 : a = v + 5
        · subst e2
          rw [← hk, hup_ne (by omega), ga _ (by omega)]
        · rw [ka _ e2]
          by_cases e3 : a = v
          · subst e3
            rw [gv, if_neg (by omega), if_neg (by omega)]
          · rw [ga _ e3]
  · rw [seg_off (by omega), ma _ (by omega), ka _ (by omega), gv, gv, gv, gv, gv, gv]
    exact ⟨rfl, rfl, rfl, rfl, rfl, rfl⟩
  · rw [seg_off (by omega), ma _ (by omega), ← hk, hup_at]
  · rw [seg_off (by omega), ← hm, seg_in (by omega) (by omega)]
/-- where the references lead, as slots -/
def AimE (v : Int) (S N : Int → Int) (n : Int) (h : hH) (i f : Int) : Prop := (aheadS S (N i) f = -1 ∧ h (v + 10) (6 * i + f) = -1) ∨ (0 ≤ h (v + 10) (6 * i + f) ∧ h (v + 10) (6 * i + f) < n ∧ N (h (v + 10) (6 * i + f)) = aheadS S (N i) f)
def aimC (v a b : Int) : Bool := a == v + 10 && decide (0 ≤ b)
theorem aim_jug {v a b : Int} (z : aimC v a b = true) : jugC v a b = true := by
  unfold aimC at z; unfold jugC; simp at z ⊢; omega
theorem findAims_ok (hv : JV v) (hs : SOk S) (hva : SVal S) (hJ : JC v S N n h) : ∃ h', fX1_findAims h v = some h' ∧ Fr (aimC v) h h' ∧ ∀ i f, 0 ≤ i → i < n → 0 ≤ f → f < S 2 → AimE v S N n h' i f := by
  have h2 := hs.2.2.1
  have n40 := hJ.2.2.2.2.2.1.2.2.1
  have n0 := hJ.2.2.2.2.2.1.2.1
  unfold fX1_findAims
  refine lpO_inv (f := fX1_findAims_s2 h v) (h := h) n (fun i h' => Fr (aimC v) h h' ∧ ∀ i' f, 0 ≤ i' → i' < i → 0 ≤ f → f < S 2 → AimE v S N n h' i' f) _ (fun i h' i0 i1 hI => ?_) (fun h' hI => ?_) (Int.le_refl _) n0 ⟨Fr.rf, fun i' f a b => by omega⟩
  · have hJ' := hJ.fr hv (hI.1.mono (fun a b z => aim_jug z))
    obtain ⟨-, ⟨⟨v0, v1, -⟩, -⟩, -, e14, e15, -, e13⟩ := hJ'
    unfold fX1_findAims_s2
    dsimp only
    rw [v1, e13, e14, if_pos i1]
    have inner := lpO_inv (f := fX1_findAims_s18 h' v i) (h := h') (S 2) (fun j h'' => Fr (aimC v) h h'' ∧ (∀ i' f, 0 ≤ i' → i' < i → 0 ≤ f → f < S 2 → AimE v S N n h'' i' f) ∧ ∀ f, 0 ≤ f → f < j → AimE v S N n h'' i f) (fun r => ∃ h'', r = .inl (h'', i + 1) ∧ Fr (aimC v) h h'' ∧ ∀ i' f, 0 ≤ i' → i' < i + 1 → 0 ≤ f → f < S 2 → AimE v S N n h'' i' f) (fun j h'' j0 j1 hK => ?_) (fun h'' hK => ?_) (Int.le_refl _) h2.1 ⟨hI.1, hI.2, fun f a b => by omega⟩
    · obtain ⟨r, r1, h'', r2, r3, r4⟩ := inner
      exact ⟨h'', by rw [r1, r2], r3, r4⟩
    · have hJ'' := hJ.fr hv (hK.1.mono (fun a b z => aim_jug z))
      obtain ⟨L'', ⟨⟨v0, v1, -, -, -, -, -, v14, -⟩, ⟨-, -, -, l10, -⟩, -⟩, hc, e14, e15, hRD, e13⟩ := hJ''
      have e2 : h'' 4 2 = S 2 := hc.2.2.2.1.2.2.1
      unfold fX1_findAims_s18
      dsimp only
      rw [v0, e2, if_pos j1, v1, e13]
      have ha := aim_ok hc.1 hc.2.1 hc.2.2.1 hc.2.2.2 hs hva (i := i) (f := j) i0 (by rw [e14]; exact i1) j0 j1
      rw [show (14 : Int) + 1 = 15 from rfl, e15, e14] at ha
      have put1 : ∀ x, fX11_put h'' (v + 10) (6 * i + j) x = some (hup h'' (v + 10) (6 * i + j) x) := fun x => put_in (by omega) (by omega)
      have res : ∃ x, fX3_aim h'' 14 4 i j = some x ∧ ((aheadS S (N i) j = -1 ∧ x = -1) ∨ (0 ≤ x ∧ x < n ∧ N x = aheadS S (N i) j)) := by
        unfold aheadS
        by_cases z : S (249 + N i) = S (58 + j)
        · rw [if_pos z] at ha ⊢
          exact ha
        · rw [if_neg z] at ha ⊢
          exact ⟨-1, ha, Or.inl ⟨rfl, rfl⟩⟩
      obtain ⟨x, x1, x2⟩ := res
      rw [x1]
      simp only [Option.bind_some]
      rw [v14, show w32 (w32 (i * 6) + j) = 6 * i + j by rw [w32_id (x := i * 6) (by omega) (by omega), w32_id (by omega) (by omega)]; omega, put1]
      simp only [Option.bind_some]
      rw [w1 (by omega) (by omega)]
      refine ⟨_, rfl, hK.1.tr (Fr.up (by unfold aimC; simp; omega)), fun i' f a0 a1 b0 b1 => ?_, fun f b0 b1 => ?_⟩
      · unfold AimE
        rw [hup_ne (by omega)]
        exact hK.2.1 i' f a0 a1 b0 b1
      · unfold AimE
        by_cases e : f = j
        · subst e
          rw [hup_at]
          exact x2
        · rw [hup_ne (by omega)]
          exact hK.2.2 f b0 (by omega)
    · have hJ'' := hJ.fr hv (hK.1.mono (fun a b z => aim_jug z))
      obtain ⟨L'', ⟨⟨v0, -⟩, -⟩, hc, -⟩ := hJ''
      have e2 : h'' 4 2 = S 2 := hc.2.2.2.1.2.2.1
      unfold fX1_findAims_s18
      dsimp only
      rw [v0, e2, if_neg (Int.lt_irrefl _), w1 (by omega) (by omega)]
      refine ⟨_, rfl, h'', rfl, hK.1, fun i' f a0 a1 b0 b1 => ?_⟩
      by_cases e : i' = i
      · subst e; exact hK.2.2 f b0 b1
      · exact hK.2.1 i' f a0 (by omega) b0 b1
  · have hJ' := hJ.fr hv (hI.1.mono (fun a b z => aim_jug z))
    obtain ⟨-, ⟨⟨-, v1, -⟩, -⟩, -, e14, -, -, e13⟩ := hJ'
    unfold fX1_findAims_s2
    dsimp only
    rw [v1, e13, e14, if_neg (Int.lt_irrefl _)]
    exact ⟨h', rfl, hI.1, hI.2⟩
theorem finds_ok {T : Int → Int} {l i : Int} (hs : SOk S) (hva : SVal S) (hJ : JC v S N n h) (hT : LOk S T) (hl : LinC S h l T) (i0 : 0 ≤ i) (i1 : i < n) : ∃ b, fX2_finds h 37 l 14 i = some b ∧ Bt b (fndS S T (N i)) := by
  obtain ⟨hL, -, hc, e14, e15, hRD, e13⟩ := hJ
  obtain ⟨-, n0, n40, rt, rn, rv, ra, -, -⟩ := hRD
  obtain ⟨⟨l0, l1⟩, -, p1, p2, pc, -, -⟩ := hl
  obtain ⟨-, t1, t7, tc, -⟩ := hT
  have hw := hs.2.2.2.2.1 _ t1.1 t1.2
  unfold fX2_finds
  rw [rt i i0 i1]
  simp only [Option.bind_some]
  rw [part_ok hL l0 l1 (by decide) (by decide), p1]
  simp only [Option.bind_some]
  unfold fndS
  by_cases z : S (249 + N i) = T 1
  · rw [if_pos z]
    obtain ⟨m0, m1, m2⟩ := ra i i0 i1
    rcases lpO_find (f := fX2_finds_s19 h 37 l 14 i) (fun k => k) (T 7) (fun k => ¬ cndS S T (N i) k) (fun _ => 0) 1 (fun k k0 k1 => by
      obtain ⟨c0, c1, c2⟩ := tc k k0 k1
      obtain ⟨d0, d1, d2⟩ := pc k k0 k1
      have hval := ((hva _ m0 m1 m2).2 (T (8 + 3 * k)) c0.1 (by omega)).1
      unfold fX2_finds_s19
      rw [part_ok hL l0 l1 (by decide) (by decide), p2]
      simp only [Option.bind_some]
      rw [if_pos k1, if_pos (by omega), w32_id (x := k * 3) (by omega) (by omega), w32_id (x := 7 + k * 3) (by omega) (by omega), w32_id (x := 7 + k * 3 + 1) (by omega) (by omega), w32_id (x := 7 + k * 3 + 2) (by omega) (by omega), show k * 3 = 3 * k by omega, part_ok hL l0 l1 (by omega) (by omega), d0]
      simp only [Option.bind_some]
      rw [rv i _ i0 i1 c0.1 (by omega)]
      simp only [Option.bind_some]
      rw [part_ok hL l0 l1 (by omega) (by omega), d1]
      simp only [Option.bind_some]
      rw [part_ok hL l0 l1 (by omega) (by omega), d2]
      simp only [Option.bind_some]
      unfold fX2_finds_b104 fX2_finds_b130 fX2_finds_b131 cndS
      rw [w1 (by omega) (by omega)]
      by_cases a : T (8 + 3 * k + 2) = -1
      · rw [if_pos a, if_pos (by omega)]
        by_cases b : T (8 + 3 * k + 1) = 61
        · rw [if_pos b]
          by_cases c : S (348 + (4 * N i + T (8 + 3 * k))) = -1
          · rw [if_pos c]
            exact ⟨fun y => absurd ⟨by omega, b⟩ y, fun _ => rfl⟩
          · rw [if_neg c]
            exact ⟨fun _ => rfl, fun y => absurd (fun x => c (by omega)) y⟩
        · rw [if_neg b]
          exact ⟨fun _ => rfl, fun y => absurd (fun x => b x.2) y⟩
      · rw [if_neg a, if_neg (show ¬ T (8 + 3 * k + 2) < 0 by omega)]
        by_cases c : S (348 + (4 * N i + T (8 + 3 * k))) = -1
        · rw [if_pos c]
          exact ⟨fun _ => rfl, fun y => absurd (fun x => by omega) y⟩
        · rw [if_neg c]
          obtain ⟨x, x1, x2, x3⟩ := compares_ok (h := h) (a := S (348 + (4 * N i + T (8 + 3 * k)))) (b := T (8 + 3 * k + 2)) c1
          rw [x1]
          simp only [Option.bind_some]
          by_cases e : x = 0
          · rw [if_pos e]
            exact ⟨fun _ => rfl, fun y => absurd (fun w => by have := x3.mpr w.2; omega) y⟩
          · rw [if_neg e]
            exact ⟨fun y => absurd ⟨by omega, x3.mp (by omega)⟩ y, fun _ => rfl⟩) (by
      unfold fX2_finds_s19
      rw [part_ok hL l0 l1 (by decide) (by decide), p2]
      simp only [Option.bind_some]
      rw [if_neg (Int.lt_irrefl _)]) (i := 0) (Int.le_refl _) t7.1 with ⟨j, j0, j1, j2, -, j3⟩ | ⟨j1, j2⟩
    · exact ⟨0, j3, Or.inr ⟨rfl, fun y => j2 (y.2 j j0 j1)⟩⟩
    · exact ⟨1, j2, Or.inl ⟨rfl, z, fun k k0 k1 => Classical.byContradiction (fun y => j1 k k0 k1 y)⟩⟩
  · rw [if_neg z]
    exact ⟨0, rfl, Or.inr ⟨rfl, fun y => z y.1⟩⟩
theorem wish_raw (hL : Lay h) (hv : JV v) {i c x : Int} (i0 : 0 ≤ i) (i1 : i < 40) (c0 : 0 ≤ c) (c1 : c < 4) : fX1_wish h v i c x = if h (v + 11) (4 * i + c) = 1 then (if h (v + 12) (4 * i + c) = x then some (1, h) else some (0, h)) else some (1, hup (hup (hup h (v + 11) (4 * i + c) 1) (v + 12) (4 * i + c) x) v 10 1) := by
  obtain ⟨⟨-, -, -, -, -, -, -, -, v15, v16⟩, ⟨-, -, -, -, l11, l12⟩, -, -⟩ := jAt hL hv
  unfold fX1_wish
  rw [if_neg (show ¬ c = -1 by omega), show w32 (w32 (i * 4) + c) = 4 * i + c by rw [w32_id (x := i * 4) (by omega) (by omega), w32_id (by omega) (by omega)]; omega, v15, v16, at_in (by omega) (by omega)]
  simp only [Option.bind_some]
  by_cases a : h (v + 11) (4 * i + c) = 1
  · rw [if_pos a, if_pos a, at_in (by omega) (by omega)]
    rfl
  · rw [if_neg a, if_neg a, put_in (by omega) (by omega)]
    simp only [Option.bind_some]
    rw [hup_off (a := v) (by omega), v16, put_in (by omega) (by rw [hup_off (by omega)]; omega)]
    rfl
def encA (x a w : Int) : Prop := (x = -9 ∧ a = 0) ∨ (x ≠ -9 ∧ a = 1 ∧ w = x)
/-- the rows a line finds; where they go or what they are to have -/
noncomputable def G0S (S T : Int → Int) : Int → Int := fun q => @ite _ (T 0 = 1 ∧ 0 ≤ q ∧ q < 99 ∧ S (150 + q) = 1 ∧ fndS S T q) (Classical.propDecidable _) 0 (-1)
noncomputable def W0S (S T : Int → Int) : Int → Int := fun j => @ite _ (T 0 = 2 ∧ 0 ≤ j ∧ j < 396 ∧ S (150 + j / 4) = 1 ∧ fndS S T (j / 4)) (Classical.propDecidable _) (if j % 4 = T 3 then T 4 else if T 2 = 2 ∧ j % 4 = T 5 then T 6 else -9) (-9)
noncomputable def fcS (S T N : Int → Int) (l : Int) : Int := ((rng 0 l).filter (fun i => @decide (fndS S T (N i)) (Classical.propDecidable _))).length
theorem fcS_s {T : Int → Int} {l : Int} (l0 : 0 ≤ l) : fcS S T N (l + 1) = fcS S T N l + @ite _ (fndS S T (N l)) (Classical.propDecidable _) 1 0 := by
  unfold fcS
  rw [rng_snoc l0, List.filter_append, List.length_append]
  by_cases z : fndS S T (N l)
  · rw [if_pos z, List.filter_cons_of_pos (by simpa using z)]
    rfl
  · rw [if_neg z, List.filter_cons_of_neg (by simpa using z)]
    rfl
theorem fcS_b {T : Int → Int} {l : Int} (l0 : 0 ≤ l) : 0 ≤ fcS S T N l ∧ fcS S T N l ≤ l := by
  have : ((rng 0 l).filter (fun i => @decide (fndS S T (N i)) (Classical.propDecidable _))).length ≤ (rng 0 l).length := List.length_filter_le _ _
  rw [rng_len] at this
  unfold fcS
  omega
def frwC (v a b : Int) : Bool := (a == v && (b == 6 || b == 10)) || ((a == v + 9 || a == v + 11 || a == v + 12) && decide (0 ≤ b))
theorem frw_jug {v a b : Int} (z : frwC v a b = true) : jugC v a b = true := by
  unfold frwC at z; unfold jugC; simp at z ⊢; omega
theorem findRows_ok {T : Int → Int} {l : Int} (hv : JV v) (hs : SOk S) (hva : SVal S) (hJ : JC v S N n h) (hT : LOk S T) (hl : LinC S h l T) (hk : T 0 = 1 ∨ T 0 = 2) (z6 : h v 6 = 0) (z9 : ∀ i, 0 ≤ i → i < 40 → h (v + 9) i = -1) (z11 : ∀ j, 0 ≤ j → j < 160 → h (v + 11) j = 0) :
    ∃ h', fX1_findRows h v 37 l = some h' ∧ Fr (frwC v) h h' ∧ h' v 6 = fcS S T N n ∧ (∀ i, 0 ≤ i → i < n → h' (v + 9) i = G0S S T (N i)) ∧ ∀ i c, 0 ≤ i → i < n → 0 ≤ c → c < 4 → encA (W0S S T (4 * N i + c)) (h' (v + 11) (4 * i + c)) (h' (v + 12) (4 * i + c)) := by
  have n40 := hJ.2.2.2.2.2.1.2.2.1
  have n0 := hJ.2.2.2.2.2.1.2.1
  have ra := hJ.2.2.2.2.2.1.2.2.2.2.2.2.1
  have hL := hJ.1
  have hl0 := hl
  obtain ⟨⟨l0, l1⟩, p0, -, -, -, -, pset⟩ := hl
  have hw := hs.2.2.2.2.1 _ hT.2.1.1 hT.2.1.2
  have main : ∀ d : Int, (d = 1 ∧ T 0 = 1) ∨ (d = 0 ∧ T 0 = 2) → ∃ h', lpO (fX1_findRows_s21 h v 37 l d) (h, 0) = some h' ∧ Fr (frwC v) h h' ∧ h' v 6 = fcS S T N n ∧ (∀ i, 0 ≤ i → i < n → h' (v + 9) i = G0S S T (N i)) ∧ ∀ i c, 0 ≤ i → i < n → 0 ≤ c → c < 4 → encA (W0S S T (4 * N i + c)) (h' (v + 11) (4 * i + c)) (h' (v + 12) (4 * i + c)) := by
    intro d hd
    refine lpO_inv (f := fX1_findRows_s21 h v 37 l d) (h := h) n (fun i h' => Fr (frwC v) h h' ∧ h' v 6 = fcS S T N i ∧ (∀ j, 0 ≤ j → j < n → h' (v + 9) j = if j < i then G0S S T (N j) else -1) ∧ ∀ j c, 0 ≤ j → j < n → 0 ≤ c → c < 4 → if j < i then encA (W0S S T (4 * N j + c)) (h' (v + 11) (4 * j + c)) (h' (v + 12) (4 * j + c)) else h' (v + 11) (4 * j + c) = 0) _ (fun i h' i0 i1 hI => ?_) (fun h' hI => ?_) (Int.le_refl _) n0 ⟨Fr.rf, ?_, fun j j0 j1 => ?_, fun j c j0 j1 c0 c1 => ?_⟩
    · obtain ⟨I1, I2, I3, I4⟩ := hI
      have fj : Fr (jugC v) h h' := I1.mono (fun a b z => frw_jug z)
      have hJ' := hJ.fr hv fj
      have hl' : LinC S h' l T := LinC.of hl0 (jug_row fj (by rcases hv with rfl | rfl <;> omega))
      obtain ⟨b, b1, b2⟩ := finds_ok hs hva hJ' hT hl' i0 i1
      obtain ⟨L', ⟨⟨v0, v1, -, -, -, -, v13, -⟩, ⟨-, -, l9, -⟩, -⟩, hc, e14, e15, hRD, e13⟩ := hJ'
      obtain ⟨m0, m1, m2⟩ := ra i i0 i1
      have fb := fcS_b (S := S) (T := T) (N := N) i0
      unfold fX1_findRows_s21
      dsimp only
      rw [v1, e13, e14, if_pos i1, b1]
      simp only [Option.bind_some]
      rw [w1 (by omega) (by omega)]
      have e4 : (4 * N i + 0) / 4 = N i := by omega
      have dv : ∀ c, 0 ≤ c → c < 4 → (4 * N i + c) / 4 = N i ∧ (4 * N i + c) % 4 = c := fun c _ _ => by omega
      rcases b2 with ⟨rfl, fd⟩ | ⟨rfl, fd⟩
      · simp only [if_neg (show ¬ (1 : Int) = 0 by decide), pput, Option.bind_some]
        rw [I2, w32_id (by omega) (by omega)]
        generalize hg : hup h' v 6 (fcS S T N i + 1) = g
        have ga : ∀ a, a ≠ v → g a = h' a := fun a ha => by rw [← hg, hup_off ha]
        have g6 : g v 6 = fcS S T N i + 1 := by rw [← hg, hup_at]
        have gv : ∀ b, b ≠ 6 → g v b = h' v b := fun b hb => by rw [← hg, hup_ne (fun z => hb z.2)]
        have fg : Fr (frwC v) h g := I1.tr (by rw [← hg]; exact Fr.up (by unfold frwC; simp))
        have Lg : Lay g := jug_lay hv (fg.mono (fun a b z => frw_jug z)) hL
        have e6 : fcS S T N (i + 1) = fcS S T N i + 1 := by rw [fcS_s i0, if_pos fd]
        have g38 : g 38 = h 38 := jug_row (fg.mono (fun a b z => frw_jug z)) (by rcases hv with rfl | rfl <;> omega)
        rcases hd with ⟨rfl, hd⟩ | ⟨rfl, hd⟩
        · simp only [if_neg (show ¬ (1 : Int) = 0 by decide)]
          rw [gv 13 (by decide), v13, put_in i0 (by rw [ga _ (by omega)]; omega)]
          refine ⟨_, rfl, fg.tr (Fr.up (by unfold frwC; simp; omega)), ?_, fun j j0 j1 => ?_, fun j c j0 j1 c0 c1 => ?_⟩
          · rw [hup_off (by omega), g6, e6]
          · by_cases e : j = i
            · rw [e, hup_at, if_pos (by omega)]
              unfold G0S
              rw [if_pos ⟨hd, m0, m1, m2, fd⟩]
            · rw [hup_ne (fun z => e z.2), ga _ (by omega), I3 j j0 j1]
              by_cases f : j < i
              · rw [if_pos f, if_pos (by omega)]
              · rw [if_neg f, if_neg (by omega)]
          · have := I4 j c j0 j1 c0 c1
            rw [hup_off (a := v + 11) (by omega), hup_off (a := v + 12) (by omega), ga _ (by omega), ga _ (by omega)]
            by_cases f : j < i
            · rw [if_pos (by omega)]; rw [if_pos f] at this; exact this
            · by_cases e : j = i
              · rw [if_pos (by omega)]
                rw [if_neg f] at this
                refine Or.inl ⟨?_, this⟩
                unfold W0S
                rw [if_neg (fun z => by omega)]
              · rw [if_neg (by omega)]; rw [if_neg f] at this; exact this
        · simp only [if_true]
          obtain ⟨s3, s4, s5, s6⟩ := pset hd
          obtain ⟨q1, q2, q3, q4⟩ := hT.2.2.2.2.2.2 hd
          rw [part_ok Lg l0 l1 (by decide) (by decide), g38, s3]
          simp only [Option.bind_some]
          rw [part_ok Lg l0 l1 (by decide) (by decide), g38, s4]
          simp only [Option.bind_some]
          have a0 : ∀ c, 0 ≤ c → c < 4 → g (v + 11) (4 * i + c) = 0 := fun c c0 c1 => by
            rw [ga _ (by omega)]
            have := I4 i c i0 i1 c0 c1
            rwa [if_neg (Int.lt_irrefl _)] at this
          rw [wish_raw Lg hv i0 (by omega) q2.1 (by omega), a0 _ q2.1 (by omega), if_neg (by decide)]
          simp only [Option.bind_some]
          generalize hk : hup (hup (hup g (v + 11) (4 * i + T 3) 1) (v + 12) (4 * i + T 3) (T 4)) v 10 1 = k
          have fk : Fr (frwC v) h k := fg.tr (by rw [← hk]; exact Fr.tr (Fr.tr (Fr.up (by unfold frwC; simp; omega)) (Fr.up (by unfold frwC; simp; omega))) (Fr.up (by unfold frwC; simp)))
          have Lk : Lay k := jug_lay hv (fk.mono (fun a b z => frw_jug z)) hL
          have k38 : k 38 = h 38 := jug_row (fk.mono (fun a b z => frw_jug z)) (by rcases hv with rfl | rfl <;> omega)
          have k11 : ∀ j, k (v + 11) j = if j = 4 * i + T 3 then 1 else h' (v + 11) j := fun j => by
            rw [← hk, hup_off (by omega), hup_off (by omega)]
            by_cases e : j = 4 * i + T 3
            · rw [e, hup_at, if_pos rfl]
            · rw [hup_ne (fun z => e z.2), if_neg e, ga _ (by omega)]
          have k12 : ∀ j, k (v + 12) j = if j = 4 * i + T 3 then T 4 else h' (v + 12) j := fun j => by
            rw [← hk, hup_off (by omega)]
            by_cases e : j = 4 * i + T 3
            · rw [e, hup_at, if_pos rfl]
            · rw [hup_ne (fun z => e z.2), if_neg e, hup_off (by omega), ga _ (by omega)]
          have k6 : k v 6 = fcS S T N (i + 1) := by rw [← hk, hup_ne (by omega), hup_off (by omega), hup_off (by omega), g6, e6]
          have k9 : k (v + 9) = h' (v + 9) := by rw [← hk, hup_off (by omega), hup_off (by omega), hup_off (by omega), ga _ (by omega)]
          have G9 : ∀ (x : hH), x (v + 9) = h' (v + 9) → ∀ j, 0 ≤ j → j < n → x (v + 9) j = if j < i + 1 then G0S S T (N j) else -1 := fun x hx j j0 j1 => by
            rw [hx, I3 j j0 j1]
            have g1 : G0S S T (N j) = -1 := by unfold G0S; rw [if_neg (fun z => by omega)]
            rw [g1]
            split <;> split <;> rfl
          have wv : ∀ c, 0 ≤ c → c < 4 → W0S S T (4 * N i + c) = if c = T 3 then T 4 else if T 2 = 2 ∧ c = T 5 then T 6 else -9 := fun c c0 c1 => by
            obtain ⟨d1, d2⟩ := dv c c0 c1
            unfold W0S
            rw [d1, d2, if_pos ⟨hd, by omega, by omega, m2, fd⟩]
          rw [part_ok Lk l0 l1 (by decide) (by decide), k38]
          simp only [Option.bind_some]
          rw [part_ok Lk l0 l1 (by decide) (by decide), k38]
          simp only [Option.bind_some]
          rcases q1 with t2 | t2
          · rw [s6 t2]
            have ew : ∀ y, fX1_wish k v i (-1) y = some (1, k) := fun y => by unfold fX1_wish; rw [if_pos rfl]
            rw [ew]
            refine ⟨k, rfl, fk, k6, G9 k k9, fun j c j0 j1 c0 c1 => ?_⟩
            have := I4 j c j0 j1 c0 c1
            rw [k11, k12]
            by_cases e : j = i
            · subst e
              rw [if_neg (Int.lt_irrefl _)] at this
              rw [if_pos (by omega), wv c c0 c1]
              by_cases x : c = T 3
              · rw [if_pos x, if_pos (by omega), if_pos (by omega)]
                exact Or.inr ⟨by omega, rfl, rfl⟩
              · rw [if_neg x, if_neg (by omega), if_neg (by omega), if_neg (by omega)]
                exact Or.inl ⟨rfl, this⟩
            · have e1 : ¬ (4 * j + c = 4 * i + T 3) := by omega
              rw [if_neg e1, if_neg e1]
              by_cases f : j < i
              · rw [if_pos (show j < i + 1 by omega)]; rw [if_pos f] at this; exact this
              · rw [if_neg (show ¬ j < i + 1 by omega)]; rw [if_neg f] at this; exact this
          · obtain ⟨s7, s8⟩ := s5 t2
            obtain ⟨q5, q6, q7, q8⟩ := q4 t2
            rw [s7, s8, wish_raw Lk hv i0 (by omega) q5.1 (by omega), k11, if_neg (show ¬ (4 * i + T 5 = 4 * i + T 3) by omega)]
            have this0 := I4 i (T 5) i0 i1 q5.1 (by omega)
            rw [if_neg (Int.lt_irrefl _)] at this0
            rw [this0, if_neg (by decide)]
            simp only [Option.bind_some]
            refine ⟨_, rfl, fk.tr (Fr.tr (Fr.tr (Fr.up (by unfold frwC; simp; omega)) (Fr.up (by unfold frwC; simp; omega))) (Fr.up (by unfold frwC; simp))), ?_, G9 _ ?_, fun j c j0 j1 c0 c1 => ?_⟩
            · rw [hup_ne (by omega), hup_off (by omega), hup_off (by omega), k6]
            · rw [hup_off (by omega), hup_off (by omega), hup_off (by omega), k9]
            · have := I4 j c j0 j1 c0 c1
              rw [hup_off (a := v + 11) (by omega), hup_off (a := v + 11) (by omega), hup_off (a := v + 12) (by omega)]
              by_cases e : j = i
              · subst e
                rw [if_neg (Int.lt_irrefl _)] at this
                rw [if_pos (by omega), wv c c0 c1]
                by_cases x : c = T 5
                · rw [if_neg (by omega), if_pos ⟨t2, x⟩, x, hup_at, hup_at]
                  exact Or.inr ⟨by omega, rfl, rfl⟩
                · rw [hup_ne (by omega), hup_ne (by omega), hup_off (by omega), k11, k12]
                  by_cases y : c = T 3
                  · rw [if_pos y, if_pos (by omega), if_pos (by omega)]
                    exact Or.inr ⟨by omega, rfl, rfl⟩
                  · rw [if_neg y, if_neg (by omega), if_neg (by omega), if_neg (by omega)]
                    exact Or.inl ⟨rfl, this⟩
              · have e1 : ¬ (4 * j + c = 4 * i + T 3) := by omega
                rw [hup_ne (by omega), hup_ne (by omega), hup_off (by omega), k11, k12, if_neg e1, if_neg e1]
                by_cases f : j < i
                · rw [if_pos (by omega)]; rw [if_pos f] at this; exact this
                · rw [if_neg (by omega)]; rw [if_neg f] at this; exact this
      · simp only [if_true]
        refine ⟨h', rfl, I1, ?_, fun j j0 j1 => ?_, fun j c j0 j1 c0 c1 => ?_⟩
        · rw [I2, fcS_s i0, if_neg fd, Int.add_zero]
        · rw [I3 j j0 j1]
          by_cases e : j = i
          · subst e
            rw [if_neg (Int.lt_irrefl _), if_pos (by omega)]
            unfold G0S
            rw [if_neg (fun z => fd z.2.2.2.2)]
          · by_cases f : j < i
            · rw [if_pos f, if_pos (by omega)]
            · rw [if_neg f, if_neg (by omega)]
        · have := I4 j c j0 j1 c0 c1
          by_cases e : j = i
          · subst e
            rw [if_neg (Int.lt_irrefl _)] at this
            rw [if_pos (by omega)]
            refine Or.inl ⟨?_, this⟩
            obtain ⟨d1, d2⟩ := dv c c0 c1
            unfold W0S
            rw [d1, if_neg (fun z => fd z.2.2.2.2)]
          · by_cases f : j < i
            · rw [if_pos (by omega)]; rw [if_pos f] at this; exact this
            · rw [if_neg (by omega)]; rw [if_neg f] at this; exact this
    · obtain ⟨I1, I2, I3, I4⟩ := hI
      have hJ' := hJ.fr hv (I1.mono (fun a b z => frw_jug z))
      obtain ⟨-, ⟨⟨-, v1, -⟩, -⟩, -, e14, -, -, e13⟩ := hJ'
      unfold fX1_findRows_s21
      dsimp only
      rw [v1, e13, e14, if_neg (Int.lt_irrefl _)]
      refine ⟨h', rfl, I1, I2, fun i i0 i1 => ?_, fun i c i0 i1 c0 c1 => ?_⟩
      · have := I3 i i0 i1; rwa [if_pos i1] at this
      · have := I4 i c i0 i1 c0 c1; rwa [if_pos i1] at this
    · rw [z6]; rfl
    · rw [if_neg (by omega)]; exact z9 j j0 (by omega)
    · rw [if_neg (by omega)]; exact z11 _ (by omega) (by omega)
  unfold fX1_findRows fX1_findRows_b17
  rw [part_ok hL l0 l1 (by decide) (by decide), Int.add_zero, p0]
  simp only [Option.bind_some]
  rcases hk with a | a
  · rw [show (if T 0 = 0 then (141 : Int) else if T 0 = 1 then 142 else 145) = 142 by rw [if_neg (by omega), if_pos a], if_pos rfl]
    exact main 1 (Or.inl ⟨rfl, a⟩)
  · rw [show (if T 0 = 0 then (141 : Int) else if T 0 = 1 then 142 else 145) = 145 by rw [if_neg (by omega), if_neg (by omega)], if_neg (by decide)]
    exact main 0 (Or.inr ⟨rfl, a⟩)
end JUDGE
