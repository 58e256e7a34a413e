/-! JUDGING, the model's: assembled -/
def jmF (a b : Int) : Bool := jmC a b || a == 200 || a == 201 || a == 202 || (a == 194 && decide (148 ≤ b) && decide (b < 1239))
theorem jm_F {a b : Int} (z : jmC a b = true) : jmF a b = true := by unfold jmF; rw [z]; rfl
def JudM (S T : Int → Int) (h k : hH) : Prop := Lay k ∧ Fr jmF h k ∧ k 192 31 = foS S T ∧ k 192 32 = (goS S T).length ∧ k 192 33 = chS5 S T ∧ GoM (GS S T) k ∧ VioM k (vioN S T) ∧ (∀ i, 0 ≤ i → i < 1091 → k 206 i = S (148 + i)) ∧ k 194 = if whyS S T = 0 then newS S T else S
theorem hdK_0 {L : List (Int × Int × Int)} (hr : VRng L) : hdK L = 0 ↔ L = [] := by
  cases L with
  | nil => exact ⟨fun _ => rfl, fun _ => rfl⟩
  | cons x L =>
    have := hr x List.mem_cons_self
    exact ⟨fun z => by have z2 : x.1 = 0 := z; omega, fun z => by cases z⟩
section MJ
variable {S T : Int → Int} {to : Int} {h : hH}
theorem goS_alt (hb : (liv S).length ≤ 40) : goS S T = (rng 0 99).filter (fun q => decide (0 ≤ GS S T q)) := by
  unfold goS liv alv
  rw [List.filter_filter]
  apply List.filter_congr
  intro q hq
  obtain ⟨a, b⟩ := mem_rng.mp hq
  have := (GS_ok (T := T) hb q a b).2
  by_cases z : S (150 + q) = 1
  · simp [z]
  · have e := this z
    simp [z, e]
theorem cm_chg : cmS S (GS S T) (PS S T).1 99 = chgS S T := by
  unfold cmS chgS liv alv
  rw [List.filter_filter]
  congr 2
  apply List.filter_congr
  intro q _
  by_cases a : S (150 + q) = 1
  · by_cases b : GS S T q < 0 ∧ ∃ c, 0 ≤ c ∧ c < 4 ∧ othS S (PS S T).1 q c <;> simp [a, b]
  · simp [a]
/-- behind what is to be: all is done, or not -/
theorem b315_ok {h0 : hH} (hs : SOk S) (hO : StOk S) (hT : LOk S T) (hn : ¬ noRm S T) (hlen : ¬ clsh S T → (liv (newS S T)).length ≤ 40) (hM : MC S T to h) (hf : Fr jmC h0 h) (h31 : h 192 31 = foS S T) (h32 : h 192 32 = (goS S T).length) (h33 : h 192 33 = 0) (h26 : h 192 26 = 0) (hG : GoM (GS S T) h) (hE : EncM h (PS S T)) (h206 : ∀ i, 0 ≤ i → i < 1091 → h 206 i = S (148 + i)) : ∃ k, fX12_judges_b315 h 192 to = some (whyS S T, k) ∧ JudM S T h0 k := by
  have pfl := PS_fl (T := T) hs hT
  have e34 : h 192 34 = (PS S T).2.2 := hE.2.2
  unfold fX12_judges_b315
  by_cases cl : (PS S T).2.2 = 1
  · have k0 : T 0 ≠ 0 := fun z => by
      have := (PS_ins (S := S) z).2
      omega
    have nc : clsh S T := ⟨k0, cl⟩
    have ew : whyS S T = 5 := by unfold whyS; rw [if_neg hn, if_pos nc]
    rw [e34, if_neg (by omega), ew]
    refine ⟨h, rfl, hM.1, hf.mono (fun a b z => jm_F z), h31, h32, ?_, hG, ?_, h206, ?_⟩
    · rw [h33]
      unfold chS5
      rw [if_pos (Or.inr cl)]
    · unfold vioN
      rw [if_pos (Or.inr nc)]
      exact ⟨h26, fun i x hx => by simp at hx⟩
    · rw [ew, if_neg (by decide)]; exact hM.2.1
  · have cl0 : (PS S T).2.2 = 0 := pfl.2.2.resolve_right cl
    have nc : ¬ clsh S T := fun z => cl z.2
    rw [e34, if_pos cl0]
    obtain ⟨k, k1, k2, k3⟩ := doesAll_ok (T := T) (to := to) (G := GS S T) (W := (PS S T).1) hs hO hM hG hE.1 pfl.1
    rw [k1]
    simp only [Option.bind_some, pput]
    rw [cm_chg]
    generalize hg : hup k 192 33 (chgS S T) = g
    have kM : k 194 (-1) = h 194 (-1) := by
      rw [k2, hM.2.1]
      unfold bldS
      rw [if_neg (by decide), if_neg (by decide)]
    have Lk : Lay k := lay194 hM.1 k3 kM
    have Lg : Lay g := by rw [← hg]; exact Lk.upF (by decide)
    have ga : ∀ a, a ≠ 192 → g a = k a := fun a ha => by rw [← hg, hup_off ha]
    have gb : ∀ b, b ≠ 33 → g 192 b = h 192 b := fun b hb => by rw [← hg, hup_ne (fun z => hb z.2), k3 _ (by decide)]
    have g33 : g 192 33 = chgS S T := by rw [← hg, hup_at]
    have gh : ∀ a, a ≠ 192 → a ≠ 194 → g a = h a := fun a h1 h2 => by rw [ga a h1, k3 a h2]
    have gln : aget g (g 192 9) to = some (T 0) := by
      have := hM.l0
      unfold aget at this ⊢
      rw [gb 9 (by decide)]
      rw [ly_192_9 hM.1] at this ⊢
      rw [gh 197 (by decide) (by decide)]
      exact this
    rw [gln]
    simp only [Option.bind_some]
    -- the violations, and back
    have fin : ∀ (x : hH), Lay x → x 194 = newS S T → (∀ a, a ≠ 194 → x a = g a) → ∃ y, fX12_judges_b346 x 192 = some (whyS S T, y) ∧ JudM S T h0 y := by
      intro x Lx x1 x2
      have hlo : ∀ i, 0 ≤ i → i < 148 → newS S T i = S i := fun i _ hi => new_lo hO.1 hn (Or.inl hi)
      have hs' : SOk (newS S T) := hs.cong hlo
      have e149 : newS S T 149 = S 149 := new_lo hO.1 hn (Or.inr (Or.inl rfl))
      have hl := hlen nc
      obtain ⟨y, y1, y2⟩ := judgesAll_ok (late := lateS S) Lx (by rw [x1]; exact hs') (by rw [x1]; exact hl)
      rw [x1] at y2
      have hr := vioL_rng (late := lateS S) hs'
      have ev : vioN S T = vioL (newS S T) (lateS S) := by unfold vioN; rw [if_neg (fun z => z.elim hn nc)]
      have ew : whyS S T = hdK (vioN S T) := by unfold whyS; rw [if_neg hn, if_neg nc]
      rw [← ev] at y2 hr
      have hL1 : (vioN S T).length ≤ 880 := by rw [ev]; exact vioL_len hs' hl
      have y31 : ∀ b, b ≠ 26 → b ≠ 33 → y 192 b = h 192 b := fun b h1 h2 => by rw [y2.2.2.2 b h1, x2 _ (by decide), gb b h2]
      have y33 : y 192 33 = chS5 S T := by
        rw [y2.2.2.2 33 (by decide), x2 _ (by decide), g33]
        unfold chS5
        by_cases z : T 0 = 0 ∨ (PS S T).2.2 = 1
        · rw [if_pos z]
          have z0 : T 0 = 0 := z.resolve_right cl
          unfold chgS
          have : (liv S).filter (fun q => @decide (GS S T q < 0 ∧ ∃ c, 0 ≤ c ∧ c < 4 ∧ othS S (PS S T).1 q c) (Classical.propDecidable _)) = [] := by
            rw [List.filter_eq_nil_iff]
            intro q _
            simp only [decide_eq_true_eq]
            rintro ⟨-, c, -, -, o⟩
            exact o.1 ((PS_ins z0).1 _)
          rw [this]
          rfl
        · rw [if_neg z]
      have yr : ∀ a, a ≠ 192 → a ≠ 194 → a ≠ 200 → a ≠ 201 → a ≠ 202 → y a = h a := fun a h1 h2 h3 h4 h5 => by rw [y2.2.2.1 a h1 h3 h4 h5, x2 a h2, gh a h1 h2]
      have ys : y 194 = newS S T := by rw [y2.2.2.1 194 (by decide) (by decide) (by decide) (by decide), x1]
      have y206 : ∀ i, 0 ≤ i → i < 1091 → y 206 i = S (148 + i) := fun i a b => by rw [yr 206 (by decide) (by decide) (by decide) (by decide) (by decide)]; exact h206 i a b
      have frm : ∀ (z : hH), (∀ a, a ≠ 194 → z a = y a) → (∀ i, i < 148 ∨ 1239 ≤ i → z 194 i = S i) → Fr jmF h0 z := fun z z1 z2 => by
        refine (hf.mono (fun a b z => jm_F z)).tr (fun a b w => ?_)
        by_cases e : a = 194
        · subst e
          have hb : b < 148 ∨ 1239 ≤ b := by unfold jmF at w; simp at w; omega
          rw [z2 b hb, hM.2.1]
        · rw [z1 a e]
          by_cases e2 : a = 192
          · subst e2
            refine y31 b ?_ ?_
            · rintro rfl; exact absurd w (by decide)
            · rintro rfl; exact absurd w (by decide)
          · refine congrFun (yr a e2 e ?_ ?_ ?_) b <;> rintro rfl <;> exact absurd w (by simp [jmF])
      have elate : (if S 149 = 0 then (1 : Int) else 0) = lateS S := rfl
      unfold fX12_judges_b346 fX12_judges_b363
      rw [sgk Lx (by decide) (by decide), x1, e149]
      simp only [Option.bind_some]
      have go : ∃ z, ((fX12_judgesAll x 192 (lateS S)).bind fun h363 => if h363 192 26 = 0 then some (0, h363) else lpO (fX12_judges_s377 h363 192) (h363, 0)) = some (whyS S T, z) ∧ JudM S T h0 z := by
        rw [y1]
        simp only [Option.bind_some]
        rw [y2.2.1.1, ew]
        by_cases nl : vioN S T = []
        · have e0 : hdK (vioN S T) = 0 := (hdK_0 hr).mpr nl
          rw [e0, if_pos (by rw [nl]; rfl)]
          refine ⟨y, rfl, y2.1, frm y (fun _ _ => rfl) (fun i hi => ?_), by rw [y31 _ (by decide) (by decide)]; exact h31, by rw [y31 _ (by decide) (by decide)]; exact h32, y33, fun q a b => by rw [yr 205 (by decide) (by decide) (by decide) (by decide) (by decide)]; exact hG q a b, y2.2.1, y206, ?_⟩
          · rw [ys]; exact new_lo hO.1 hn (by omega)
          · rw [ew, e0, if_pos rfl]; exact ys
        · have e0 : ¬ hdK (vioN S T) = 0 := fun z => nl ((hdK_0 hr).mp z)
          have l0 : 0 < (vioN S T).length := List.length_pos_iff.mpr nl
          rw [if_neg (by omega)]
          have res := cp_loop (f := fX12_judges_s377 y 192) (h := y) 194 148 1091 (fun i => S (148 + i)) (fun r => ∃ z, r = (hdK (vioN S T), z) ∧ JudM S T h0 z) (by decide) (fun i h' i0 i1 hI => ?_) ?_
          · obtain ⟨r, r1, z, r2, r3⟩ := res
            exact ⟨z, by rw [r1, r2], r3⟩
          · have L' : Lay h' := by rw [hI]; exact lay_seg194 y2.1 (by decide)
            have e206 : h' 206 = y 206 := by rw [hI, seg_off (by decide)]
            unfold fX12_judges_s377
            dsimp only
            rw [if_pos i1, ly_192_30 L', aget_in i0 (by rw [ll_206 L']; exact i1), e206, y206 i i0 i1]
            simp only [Option.bind_some]
            rw [w32_id (by omega) (by omega), aup_s L' (by omega) (by omega)]
            simp only [Option.bind_some]
            rw [w1 (by omega) (by omega)]
          · generalize hz : seg y 194 148 1091 (fun i => S (148 + i)) = z
            have Lz : Lay z := by rw [← hz]; exact lay_seg194 y2.1 (by decide)
            have za : ∀ a, a ≠ 194 → z a = y a := fun a ha => by rw [← hz, seg_off ha]
            have zs : z 194 = S := funext (fun i => by
              rw [← hz]
              by_cases c : 148 ≤ i ∧ i < 148 + 1091
              · rw [seg_in c.1 c.2]
                congr 1
                omega
              · rw [seg_out (by omega), ys]
                exact new_lo hO.1 hn (by omega))
            have v0 : z 200 0 = hdK (vioN S T) := by
              rw [za _ (by decide)]
              cases hv : vioN S T with
              | nil => exact absurd hv nl
              | cons w L =>
                have := y2.2.1.2 0 w (by rw [hv]; rfl)
                exact this.1
            unfold fX12_judges_s377
            dsimp only
            rw [if_neg (by decide), ly_192_23 Lz, aget_in (by decide) (by rw [ll_200 Lz]; decide), v0]
            refine ⟨_, rfl, z, rfl, Lz, frm z za (fun i _ => by rw [zs]), by rw [za _ (by decide), y31 _ (by decide) (by decide)]; exact h31, by rw [za _ (by decide), y31 _ (by decide) (by decide)]; exact h32, by rw [za _ (by decide)]; exact y33, fun q a b => by rw [za _ (by decide), yr 205 (by decide) (by decide) (by decide) (by decide) (by decide)]; exact hG q a b, ?_, fun i a b => by rw [za _ (by decide)]; exact y206 i a b, ?_⟩
            · unfold VioM
              rw [za 192 (by decide), za 200 (by decide), za 201 (by decide), za 202 (by decide)]
              exact y2.2.1
            · rw [ew, if_neg e0]; exact zs
      by_cases l9 : S 149 = 0
      · rw [if_pos l9]
        rw [← elate, if_pos l9] at go
        exact go
      · rw [if_neg l9]
        rw [← elate, if_neg l9] at go
        exact go
    by_cases k0 : T 0 = 0
    · rw [if_pos k0]
      have b148 : S 148 < 99 := Int.lt_of_not_ge (fun y => hn ⟨k0, Or.inr y⟩)
      have eb : bldS S (GS S T) (PS S T).1 = S := by
        funext i
        unfold bldS
        by_cases a : 150 ≤ i ∧ i < 249
        · rw [if_pos a, if_neg (fun z => by rw [GS_ins k0] at z; exact absurd z.2 (by decide))]
        · rw [if_neg a]
          by_cases b : 348 ≤ i ∧ i < 744
          · rw [if_pos b, if_neg (fun z => z.2.2 ((PS_ins k0).1 _))]
          · rw [if_neg b]
      have hMg : MC S T to g := ⟨Lg, by rw [ga _ (by decide), k2, eb], hM.2.2.1, fun i i0 i1 => by rw [gh 197 (by decide) (by decide)]; exact hM.2.2.2 i i0 i1⟩
      obtain ⟨x, x1, x2, x3⟩ := inserts_ok hs hT hMg hO.1.1 b148
      rw [x1]
      simp only [Option.bind_some]
      refine fin x (lay194 Lg x3 ?_) ?_ x3
      · rw [x2, hMg.2.1]
        exact is_lo hO.1.1 b148 (by omega) (by decide)
      · rw [x2]
        unfold newS
        rw [if_pos k0]
    · rw [if_neg k0]
      refine fin g Lg ?_ (fun _ _ => rfl)
      rw [ga _ (by decide), k2]
      unfold newS
      rw [if_neg k0]
/-- behind what is found -/
theorem b205_ok {h0 : hH} (hs : SOk S) (hO : StOk S) (hT : LOk S T) (hn : ¬ noRm S T) (hlen : ¬ clsh S T → (liv (newS S T)).length ≤ 40) (hM : MC S T to h) (hf : Fr jmC h0 h) (h31 : h 192 31 = foS S T) (h32 : h 192 32 = 0) (h33 : h 192 33 = 0) (h34 : h 192 34 = 0) (h26 : h 192 26 = 0) (hA : AhM S h) (hG : GoM (G0S S T) h) (hW : ∀ j, 0 ≤ j → j < 396 → h 203 j = W0S S T j) (h206 : ∀ i, 0 ≤ i → i < 1091 → h 206 i = S (148 + i)) : ∃ r, fX12_judges_b205 h 192 to = some r ∧ ∃ k, r = (whyS S T, k) ∧ JudM S T h0 k := by
  have hb := hO.2.2.2.2.2.1
  obtain ⟨K40, KK⟩ := KS_ok (T := T) hb
  obtain ⟨M161, MM⟩ := mS_ok (T := T) hs hb hT
  obtain ⟨c, c1, c2, c3⟩ := closes_ok hs hM hA (G0_ok (S := S) (T := T)) hG hO.2.2.2.2.1 KK K40
  have cjm : Fr jmC h c := c2.mono (fun a b z => by unfold cl5C at z; unfold jmC; simp at z ⊢; omega)
  have cr : ∀ a, a ≠ 205 → c a = h a := fun a ha => c2.row a (fun b => by unfold cl5C; simp; omega)
  have hMc := hM.fr cjm
  have c3' : GoM (GS S T) c := c3
  unfold fX12_judges_b205
  rw [c1]
  simp only [Option.bind_some]
  refine lpO_inv (f := fX12_judges_s211 c 192 to) (h := c) 99 (fun l x => (∀ a, a ≠ 192 → x a = c a) ∧ (∀ b, b ≠ 32 → x 192 b = c 192 b) ∧ x 192 32 = ((rng 0 l).filter (fun q => decide (0 ≤ GS S T q))).length) (fun r => ∃ k, r = (whyS S T, k) ∧ JudM S T h0 k) (fun l x l0 l1 hI => ?_) (fun x hI => ?_) (Int.le_refl _) (by decide) ⟨fun _ _ => rfl, fun _ _ => rfl, by rw [cr 192 (by decide)]; exact h32⟩
  · obtain ⟨I1, I2, I3⟩ := hI
    have e29 : x 192 29 = 205 := by rw [I2 29 (by decide)]; exact ly_192_29 hMc.1
    have lx : x 205 (-1) = 99 := by rw [I1 _ (by decide)]; exact ll_205 hMc.1
    have hl : ((rng 0 l).filter (fun q => decide (0 ≤ GS S T q))).length ≤ (rng 0 l).length := List.length_filter_le _ _
    rw [rng_len] at hl
    unfold fX12_judges_s211 fX12_judges_b236
    dsimp only
    rw [if_pos l1, e29, aget_in l0 (by rw [lx]; exact l1), I1 _ (by decide), c3' l l0 l1]
    simp only [Option.bind_some, pput]
    rw [I3, w1 (by omega) (by omega), rng_snoc l0, List.filter_append, List.length_append]
    by_cases z : GS S T l < 0
    · rw [if_pos z, List.filter_cons_of_neg (by simp; omega), w32_id (by omega) (by omega)]
      refine ⟨_, rfl, fun a ha => by rw [hup_off ha]; exact I1 a ha, fun b hb => by rw [hup_ne (fun y => hb y.2)]; exact I2 b hb, by rw [hup_at]; simp⟩
    · rw [if_neg z, List.filter_cons_of_pos (by simp; omega), w32_id (by omega) (by omega)]
      refine ⟨_, rfl, fun a ha => by rw [hup_off ha]; exact I1 a ha, fun b hb => by rw [hup_ne (fun y => hb y.2)]; exact I2 b hb, by rw [hup_at]; simp⟩
  · obtain ⟨I1, I2, I3⟩ := hI
    rw [← goS_alt hb] at I3
    unfold fX12_judges_s211
    dsimp only
    rw [if_neg (by decide)]
    simp only [pput, Option.bind_some]
    generalize hg : hup x 192 35 1 = g
    have ga : ∀ a, a ≠ 192 → g a = c a := fun a ha => by rw [← hg, hup_off ha, I1 a ha]
    have gb : ∀ b, b ≠ 32 → b ≠ 35 → g 192 b = h 192 b := fun b h1 h2 => by rw [← hg, hup_ne (fun z => h2 z.2), I2 b h1, cr _ (by decide)]
    have g32 : g 192 32 = (goS S T).length := by rw [← hg, hup_ne (by decide)]; exact I3
    have fgc : Fr jmC c g := fun a b w => by
      by_cases e : a = 192
      · subst e
        have h1 : b ≠ 32 := by rintro rfl; exact absurd w (by decide)
        have h2 : b ≠ 35 := by rintro rfl; exact absurd w (by decide)
        rw [gb b h1 h2, cr _ (by decide)]
      · rw [ga a e]
    have fg : Fr jmC h0 g := hf.tr (cjm.tr fgc)
    have hMg := hMc.fr fgc
    have gE : EncM g (Pk S (GS S T) (W0S S T) 0) := ⟨fun j a b => by rw [ga _ (by decide), cr _ (by decide)]; exact hW j a b, by rw [← hg, hup_at]; rfl, by rw [gb _ (by decide) (by decide)]; exact h34⟩
    obtain ⟨r, r1, r2⟩ := while_ok (x0 := g) (G := GS S T) (W0 := W0S S T) (m := mS S T) (Q := fun r => ∃ k, r = (whyS S T, k) ∧ JudM S T h0 k) hs hMg (fun q f a b c d => by rw [ga _ (by decide), cr _ (by decide)]; exact hA q f a b c d) (fun q a b => by rw [ga _ (by decide)]; exact c3' q a b) gE MM (fun k fk kE => by
      have fkr : ∀ a, a ≠ 203 → a ≠ 192 → k a = g a := fun a h1 h2 => fk.row a (fun b => by unfold wtC; simp; omega)
      have fkb : ∀ b, b ≠ 34 → b ≠ 35 → k 192 b = g 192 b := fun b h1 h2 => fk 192 b (by unfold wtC; simp; omega)
      obtain ⟨y, y1, y2⟩ := b315_ok (h0 := h0) hs hO hT hn hlen (hMg.fr (fk.mono (fun a b z => wt_jm z))) (fg.tr (fk.mono (fun a b z => wt_jm z))) (by rw [fkb _ (by decide) (by decide), gb _ (by decide) (by decide)]; exact h31) (by rw [fkb _ (by decide) (by decide)]; exact g32) (by rw [fkb _ (by decide) (by decide), gb _ (by decide) (by decide)]; exact h33) (by rw [fkb _ (by decide) (by decide), gb _ (by decide) (by decide)]; exact h26) (fun q a b => by rw [fkr _ (by decide) (by decide), ga _ (by decide)]; exact c3' q a b) kE (fun i a b => by rw [fkr _ (by decide) (by decide), ga _ (by decide), cr _ (by decide)]; exact h206 i a b)
      exact ⟨_, y1, y, rfl, y2⟩)
    rw [r1]
    exact ⟨r, rfl, r2⟩
theorem judgesM_ok (hs : SOk S) (hO : StOk S) (hT : LOk S T) (hlen : ¬ noRm S T → ¬ clsh S T → (liv (newS S T)).length ≤ 40) (hM : MC S T to h) : ∃ k, fX12_judges h 192 to = some (whyS S T, k) ∧ JudM S T h k := by
  have hb := hO.2.2.2.2.2.1
  have es := hM.2.1
  unfold fX12_judges
  have key := cp_loop (f := fX12_judges_s2 h 192 to) (h := h) 206 0 1091 (fun i => S (148 + i)) (fun r => ∃ k, r = (whyS S T, k) ∧ JudM S T h k) (by decide) (fun i h' i0 i1 hI => ?_) ?_
  · obtain ⟨r, r1, k, r2, r3⟩ := key
    exact ⟨k, by rw [r1, r2], r3⟩
  · have L' : Lay h' := by
      rw [hI]
      exact (seg_fr (C := jmC) (fun b hb => by unfold jmC; simp; omega) (by decide)).lay hM.1 jm_lay1 jm_lay2
    have e1 : h' 194 = S := by rw [hI, seg_off (by decide)]; exact es
    unfold fX12_judges_s2
    dsimp only
    rw [if_pos i1, w32_id (x := 148 + i) (by omega) (by omega), sgk L' (by omega) (by omega), e1]
    simp only [Option.bind_some]
    rw [ly_192_30 L', aput_in i0 (by rw [ll_206 L']; exact i1), Int.zero_add]
    simp only [Option.bind_some]
    rw [w1 (by omega) (by omega)]
  · generalize hg : seg h 206 0 1091 (fun i => S (148 + i)) = g
    have fg : Fr jmC h g := by rw [← hg]; exact seg_fr (fun b hb => by unfold jmC; simp; omega) (by decide)
    have g206 : ∀ i, 0 ≤ i → i < 1091 → g 206 i = S (148 + i) := fun i i0 i1 => by
      rw [← hg, seg_in i0 (by omega)]
      congr 1
      omega
    obtain ⟨a, a1, a2, a3, a4, a5, a6, a7⟩ := laysAhead_ok hs (hM.fr fg)
    unfold fX12_judges_s2
    dsimp only
    rw [if_neg (by decide), a1]
    simp only [Option.bind_some, pput]
    generalize hb' : hup (hup (hup (hup (hup a 192 31 0) 192 32 0) 192 33 0) 192 34 0) 192 26 0 = b
    have ba : ∀ x, x ≠ 192 → b x = a x := fun x hx => by rw [← hb', hup_off hx, hup_off hx, hup_off hx, hup_off hx, hup_off hx]
    have bv : ∀ j, b 192 j = if j = 26 ∨ (31 ≤ j ∧ j ≤ 34) then 0 else a 192 j := fun j => by
      rw [← hb']
      simp only [hup, true_and]
      repeat' split
      all_goals first | rfl | omega
    have fb : Fr jmC h b := fg.tr (a2.tr (by rw [← hb']; exact ((((Fr.up (by decide)).tr (Fr.up (by decide))).tr (Fr.up (by decide))).tr (Fr.up (by decide))).tr (Fr.up (by decide))))
    have hMb := hM.fr fb
    have b31 : b 192 31 = 0 := by rw [bv, if_pos (by decide)]
    have b32 : b 192 32 = 0 := by rw [bv, if_pos (by decide)]
    have b33 : b 192 33 = 0 := by rw [bv, if_pos (by decide)]
    have b34 : b 192 34 = 0 := by rw [bv, if_pos (by decide)]
    have b26 : b 192 26 = 0 := by rw [bv, if_pos (by decide)]
    have bA : AhM S b := fun q f x y z w => by rw [ba _ (by decide)]; exact a7 q f x y z w
    have b206 : ∀ i, 0 ≤ i → i < 1091 → b 206 i = S (148 + i) := fun i i0 i1 => by rw [ba _ (by decide), a4]; exact g206 i i0 i1
    rw [hMb.l0]
    simp only [Option.bind_some]
    by_cases k0 : T 0 = 0
    · rw [if_pos k0, rowsNowM hMb hO.2.2.2.2.1]
      simp only [Option.bind_some]
      have six : noRm S T → ∃ r, (some (Sum.inr (6, b)) : Option ((hH × Int) ⊕ (Int × hH))) = some (Sum.inr r) ∧ ∃ k, r = (whyS S T, k) ∧ JudM S T h k := fun nr => by
        have ew : whyS S T = 6 := by unfold whyS; rw [if_pos nr]
        have go0 : goS S T = [] := by
          unfold goS
          rw [List.filter_eq_nil_iff]
          intro q _
          rw [GS_ins k0 q]
          decide
        refine ⟨_, rfl, b, by rw [ew], hMb.1, fb.mono (fun a b z => jm_F z), ?_, ?_, ?_, fun q x y => ?_, ?_, b206, ?_⟩
        · rw [b31]; unfold foS; rw [if_pos k0]
        · rw [b32, go0]; rfl
        · rw [b33]; unfold chS5; rw [if_pos (Or.inl k0)]
        · rw [ba _ (by decide), a5 q x y, GS_ins k0]
        · unfold vioN
          rw [if_pos (Or.inl nr)]
          exact ⟨b26, fun i x hx => by simp at hx⟩
        · rw [ew, if_neg (by decide)]; exact hMb.2.1
      by_cases f1 : ((liv S).length : Int) = 40
      · rw [if_pos f1]
        exact six ⟨k0, Or.inl (by omega)⟩
      · rw [if_neg f1, hMb.s (by decide) (by decide)]
        simp only [Option.bind_some]
        by_cases f2 : S 148 = 99
        · rw [if_pos f2]
          exact six ⟨k0, Or.inr (by omega)⟩
        · rw [if_neg f2]
          have nn : ¬ noRm S T := fun z => by
            have := z.2
            unfold fullS at this
            have := hO.1.2
            omega
          obtain ⟨r, r1, r2⟩ := b205_ok (h0 := h) hs hO hT nn (hlen nn) hMb fb (by rw [b31]; unfold foS; rw [if_pos k0]) b32 b33 b34 b26 bA (fun q x y => by
            rw [ba _ (by decide), a5 q x y]
            unfold G0S
            rw [if_neg (fun z => by omega)]) (fun j x y => by
            rw [ba _ (by decide), a6 j x y]
            unfold W0S
            rw [if_neg (fun z => by omega)]) b206
          refine ⟨r, ?_, r2⟩
          have e94 : fX12_judges_b94 b 192 to = some r := by
            unfold fX12_judges_b94
            refine lpO_inr ?_
            unfold fX12_judges_s96
            dsimp only
            rw [if_pos (by decide), hMb.l0]
            simp only [Option.bind_some]
            rw [if_neg (by omega), r1]
            rfl
          rw [e94]
          rfl
    · rw [if_neg k0]
      have nn : ¬ noRm S T := fun z => k0 z.1
      obtain ⟨r, r1, r2⟩ := findM_ok (Q := fun r => ∃ k, r = (whyS S T, k) ∧ JudM S T h k) hs hT hMb k0 (fun q x y => by rw [ba _ (by decide)]; exact a5 q x y) (fun j x y => by rw [ba _ (by decide)]; exact a6 j x y) b31 b34 (fun k fk kG kW k31 k34 => by
        have kr : ∀ a, a ≠ 203 → a ≠ 205 → a ≠ 192 → k a = b a := fun a h1 h2 h3 => fk.row a (fun b => by unfold foC wtC; simp; omega)
        have kb : ∀ c, c ≠ 31 → c ≠ 34 → c ≠ 35 → k 192 c = b 192 c := fun c h1 h2 h3 => fk 192 c (by unfold foC wtC; simp; omega)
        exact b205_ok (h0 := h) hs hO hT nn (hlen nn) (hMb.fr (fk.mono (fun a b z => fo_jm z))) (fb.tr (fk.mono (fun a b z => fo_jm z))) k31 (by rw [kb _ (by decide) (by decide) (by decide)]; exact b32) (by rw [kb _ (by decide) (by decide) (by decide)]; exact b33) k34 (by rw [kb _ (by decide) (by decide) (by decide)]; exact b26) (fun q f x y z w => by rw [kr _ (by decide) (by decide) (by decide)]; exact bA q f x y z w) kG kW (fun i x y => by rw [kr _ (by decide) (by decide) (by decide)]; exact b206 i x y))
      rw [r1]
      exact ⟨r, rfl, r2⟩
end MJ
