/-! JUDGING, the class's, the state told apart from the heap (a book and draws are read on two heaps) -/
theorem judgeC_S {v l : Int} {h : hH} {S T : Int → Int} (hv : JV v) (hL : Lay h) (hc : Ctx4 h 14 4 S) (hs : SOk S) (hO : StOk S) (hr14 : h 14 1 = S 148) (hron : h 13 2 = S 149) (hT : LOk S T) (hl : LinC S h l T) : ∃ k, fX1_judge h v 37 l = some (whyS S T, k) ∧ Lay k ∧ Fr (fun a b => jugC v a b || a == v + 5 || a == v + 6) h k ∧ JudK v S T k := by
  have hva := hO.2.2.1
  have hb := hO.2.2.2.2.2.1
  have hJ := JC.mk hv hL hc
  generalize h 15 = N at *
  generalize h 14 0 = n at *
  have n0 := hJ.2.2.2.2.2.1.2.1
  have n40 := hJ.2.2.2.2.2.1.2.2.1
  have ra := hJ.2.2.2.2.2.1.2.2.2.2.2.2.1
  have hliv := hJ.liv
  obtain ⟨g, g1, g2, ⟨g4, g5, g6, g7, g8, g9⟩, gv5, gs, ga⟩ := reset_ok hv hL
  have hJg := hJ.fr hv g2
  have far : ∀ {x : hH}, Fr (jugC v) h x → x 38 = h 38 ∧ x 14 = h 14 ∧ x 13 = h 13 := fun fx => ⟨jug_row fx (by rcases hv with rfl | rfl <;> omega), jug_row fx (by rcases hv with rfl | rfl <;> omega), jug_row fx (by rcases hv with rfl | rfl <;> omega)⟩
  have lg : LinC S g l T := LinC.of hl (far g2).1
  obtain ⟨⟨l0, l1⟩, p0, -⟩ := hl
  have toF : ∀ {x : hH}, Fr (jugC v) h x → Fr (fun a b => jugC v a b || a == v + 5 || a == v + 6) h x := fun fx => fx.mono (fun a b z => by rw [z]; rfl)
  have vio0 : ∀ {x : hH}, x (v + 5) 0 = 0 → VioC x (v + 5) [] := fun hx => ⟨hx, fun i y hy => by simp at hy⟩
  -- the end: violations
  have fin : ∀ (k : hH), Fr (jugC v) h k → k v 4 = 1 → k v 5 = 0 → k v 6 = foS S T → k v 7 = (goS S T).length → (∀ (i : Nat) (q : Int), (goS S T)[i]? = some q → k (v + 7) i = q ∧ k (v + 8) i = GS S T q) → k v 8 = chS5 S T → k v 9 = tcS S T → ¬ noRm S T → ¬ clsh S T → RowsS k (v + 1) (newS S T) → k (v + 1) 1 = newS S T 148 → ∃ x, fX1_judge_b83 k v = some (whyS S T, x) ∧ Lay x ∧ Fr (fun a b => jugC v a b || a == v + 5 || a == v + 6) h x ∧ JudK v S T x := by
    intro k fk k4 k5 k6 k7 kg k8 k9 nn nc kR kr
    have hJk := hJ.fr hv fk
    have eon : k 13 2 = S 149 := by rw [(far fk).2.2, hron]
    obtain ⟨x, x1, Lx, x2, x3, x4⟩ := scanThen hv hJk hs hO hT nn kR k5
    have ew : whyS S T = hdK (vioL (newS S T) (lateS S)) := by unfold whyS vioN; rw [if_neg nn, if_neg nc, if_neg (fun z => z.elim nn nc)]
    have xa : ∀ a, a ≠ v → a ≠ v + 5 → a ≠ v + 6 → x a = k a := fun a e1 e2 e3 => x2.row a (fun b => by simp; exact ⟨⟨fun z => absurd z e1, e2⟩, e3⟩)
    have xv : ∀ b, b ≠ 5 → x v b = k v b := fun b hb => x2 v b (by simp; omega)
    refine ⟨x, ?_, Lx, ?_, ?_⟩
    · unfold fX1_judge_b83
      rw [k5, if_pos rfl, hJk.2.1.1.2.1, eon, hJk.2.1.1.1, hJk.2.1.1.2.2.1, hJk.2.1.1.2.2.2.1, ew, ← x1]
      unfold lateS
      split <;> rfl
    · refine (toF fk).tr (x2.mono (fun a b z => ?_))
      unfold jugC
      simp at z ⊢
      omega
    · refine ⟨by rw [xv _ (by decide)]; exact k4, by rw [ew]; exact x3, by rw [xv _ (by decide)]; exact k6, by rw [xv _ (by decide)]; exact k7, fun i q hq => ?_, by rw [xv _ (by decide)]; exact k8, fun _ => by rw [xv _ (by decide)]; exact k9, ?_, fun _ _ => ⟨?_, ?_⟩⟩
      · rw [xa _ (by omega) (by omega) (by omega), xa _ (by omega) (by omega) (by omega)]
        exact kg i q hq
      · unfold vioN
        rw [if_neg (fun z => z.elim nn nc)]
        exact x4
      · exact RowsR.same kR (by rw [xa _ (by omega) (by omega) (by omega)]) (by rw [xa _ (by omega) (by omega) (by omega)]) (by rw [xa _ (by omega) (by omega) (by omega)]) (by rw [xa _ (by omega) (by omega) (by omega)])
      · rw [xa _ (by omega) (by omega) (by omega)]; exact kr
  unfold fX1_judge
  rw [g1]
  simp only [Option.bind_some]
  rw [part_ok hJg.1 l0 l1 (by decide) (by decide), (far g2).1, Int.add_zero, p0]
  simp only [Option.bind_some]
  by_cases hk : T 0 = 0
  · rw [if_pos hk, if_pos rfl]
    have go0 : goS S T = [] := by
      unfold goS
      rw [List.filter_eq_nil_iff]
      intro q _
      rw [GS_ins hk q]
      decide
    have nc : ¬ clsh S T := fun z => z.1 hk
    have c0 : chS5 S T = 0 := by unfold chS5; rw [if_pos (Or.inl hk)]
    have f0 : foS S T = 0 := by unfold foS; rw [if_pos hk]
    obtain ⟨b, k, k1, k2, k3⟩ := insert_ok hv hJg (by rw [(far g2).2.1]; exact hr14) hO.1 hO.2.2.2.1 hT lg hk
    have fk : Fr (jugC v) h k := g2.tr (k2.mono (fun a b z => in_jug z))
    rw [k1]
    simp only [Option.bind_some]
    unfold fX1_judge_b32
    simp only [pput, Option.bind_some]
    rcases k3 with ⟨kf, rfl, rfl⟩ | ⟨kf, rfl, k9, kR, kr⟩
    · have nr : noRm S T := ⟨hk, kf⟩
      have ew : whyS S T = 6 := by unfold whyS; rw [if_pos nr]
      rw [if_pos rfl]
      generalize hx : hup k v 5 6 = x
      have xa : ∀ a, a ≠ v → x a = k a := fun a ha => by rw [← hx, hup_off ha]
      have xv : ∀ b, b ≠ 5 → x v b = k v b := fun b hb => by rw [← hx, hup_ne (fun z => hb z.2)]
      have x5 : x v 5 = 6 := by rw [← hx, hup_at]
      have fx : Fr (jugC v) h x := fk.tr (by rw [← hx]; exact Fr.up (by unfold jugC; simp))
      refine ⟨x, ?_, jug_lay hv fx hL, toF fx, ?_⟩
      · unfold fX1_judge_b83 fX1_judge_b136
        rw [x5, if_neg (by decide), ew]
      · refine ⟨by rw [xv _ (by decide)]; exact g4, by rw [x5, ew], by rw [xv _ (by decide), f0]; exact g6, by rw [xv _ (by decide), go0]; exact g7, fun i q hq => by rw [go0] at hq; simp at hq, by rw [xv _ (by decide), c0]; exact g8, fun z => by rw [ew] at z; exact absurd z (by decide), ?_, fun z => absurd nr z⟩
        unfold vioN
        rw [if_pos (Or.inl nr)]
        exact vio0 (by rw [xa _ (by omega)]; exact gv5)
    · have nn : ¬ noRm S T := fun z => kf z.2
      have en : newS S T = insS S T := by unfold newS; rw [if_pos hk]
      rw [if_neg (by decide)]
      generalize hx : hup k v 5 0 = x
      have xa : ∀ a, a ≠ v → x a = k a := fun a ha => by rw [← hx, hup_off ha]
      have xv : ∀ b, b ≠ 5 → x v b = k v b := fun b hb => by rw [← hx, hup_ne (fun z => hb z.2)]
      have x5 : x v 5 = 0 := by rw [← hx, hup_at]
      have fx : Fr (jugC v) h x := fk.tr (by rw [← hx]; exact Fr.up (by unfold jugC; simp))
      have kv : ∀ b, b ≠ 9 → k v b = g v b := fun b hb => k2 v b (by unfold inC rwC; simp; omega)
      refine fin x fx (by rw [xv _ (by decide), kv _ (by decide)]; exact g4) x5 (by rw [xv _ (by decide), kv _ (by decide), f0]; exact g6) (by rw [xv _ (by decide), kv _ (by decide), go0]; exact g7) (fun i q hq => by rw [go0] at hq; simp at hq) (by rw [xv _ (by decide), kv _ (by decide), c0]; exact g8) (by rw [xv _ (by decide), k9]; unfold tcS; rw [if_pos hk]) nn nc ?_ ?_
      · rw [en]
        exact RowsR.same kR (by rw [xa _ (by omega)]) (by rw [xa _ (by omega)]) (by rw [xa _ (by omega)]) (by rw [xa _ (by omega)])
      · rw [en, xa _ (by omega), kr]
        unfold insS
        rw [if_pos rfl]
  · have hkk : T 0 = 1 ∨ T 0 = 2 := by have := hT.1; omega
    have nn : ¬ noRm S T := fun z => hk z.1
    have e141 : ¬ ((if T 0 = 0 then (141 : Int) else if T 0 = 1 then 142 else 145) = 141) := by
      rw [if_neg hk]
      split <;> decide
    rw [if_neg e141]
    obtain ⟨a, a1, a2, a3⟩ := findAims_ok hv hs hva hJg
    have fa : Fr (jugC v) h a := g2.tr (a2.mono (fun a b z => aim_jug z))
    have ar : ∀ x, x ≠ v + 10 → a x = g x := fun x hx => a2.row x (fun b => by unfold aimC; simp; omega)
    have hJa := hJ.fr hv fa
    rw [a1]
    simp only [Option.bind_some]
    obtain ⟨b, b1, b2, b3, b4, b5⟩ := findRows_ok hv hs hva hJa hT (LinC.of lg (by rw [(far fa).1, (far g2).1])) hkk (by rw [ar v (by omega)]; exact g6) (by rw [ar (v + 9) (by omega)]; exact gs) (by rw [ar (v + 11) (by omega)]; exact ga)
    have fb : Fr (jugC v) h b := fa.tr (b2.mono (fun a b z => frw_jug z))
    have hJb := hJ.fr hv fb
    have b10 : b (v + 10) = a (v + 10) := b2.row _ (fun x => by unfold frwC; simp; omega)
    have bv : ∀ x, x ≠ 6 → x ≠ 10 → b v x = g v x := fun x h1 h2 => by
      rw [b2 v x (by unfold frwC; simp; omega), ar v (by omega)]
    rw [b1]
    simp only [Option.bind_some]
    obtain ⟨K40, KK⟩ := KS_ok (T := T) hb
    obtain ⟨c, c1, c2, c3⟩ := spread_ok hv hs hJb (fun i f x1 x2 x3 x4 => (a3 i f x1 x2 x3 x4).fr b10) (G0_ok (S := S) (T := T)) b4 KK K40
    have fc : Fr (jugC v) h c := fb.tr (c2.mono (fun a b z => sp_jug z))
    have hJc := hJ.fr hv fc
    have cr : ∀ x, x ≠ v → x ≠ v + 9 → c x = b x := fun x h1 h2 => c2.row x (fun y => by unfold spC; simp; omega)
    have cv : ∀ x, x ≠ 10 → c v x = b v x := fun x h1 => c2 v x (by unfold spC; simp; omega)
    rw [c1]
    simp only [Option.bind_some]
    have gsl : ∀ i, 0 ≤ i → i < n → GS S T (N i) = -1 ∨ 0 ≤ GS S T (N i) := fun i i0 i1 => by
      obtain ⟨m0, m1, -⟩ := ra i i0 i1
      have := (GS_ok (T := T) hb (N i) m0 m1).1
      omega
    obtain ⟨d, d1, d2, d3, d4⟩ := listGoing_ok hv hJc (X := GS S T) c3 gsl (by rw [cv _ (by decide), bv _ (by decide) (by decide)]; exact g7)
    have fd : Fr (jugC v) h d := fc.tr (d2.mono (fun a b z => lg_jug z))
    have hJd := hJ.fr hv fd
    have dr : ∀ x, x ≠ v → x ≠ v + 7 → x ≠ v + 8 → d x = c x := fun x h1 h2 h3 => d2.row x (fun y => by unfold lgC; simp; omega)
    have dv : ∀ x, x ≠ 7 → d v x = c v x := fun x h1 => d2 v x (by unfold lgC; simp; omega)
    have ego : goS S T = goLn (GS S T) N n := by
      unfold goS goLn
      rw [filter_N hliv]
    rw [← ego] at d3 d4
    have hgl : (goS S T).length ≤ 40 := by
      have : (goS S T).length ≤ (liv S).length := List.length_filter_le _ _
      omega
    rw [d1]
    simp only [Option.bind_some]
    obtain ⟨M161, MM⟩ := mS_ok (T := T) hs hb hT
    obtain ⟨e, e1, e2, e3⟩ := spreadV_ok (G := GS S T) hv hs hJd (fun i f x1 x2 x3 x4 => (a3 i f x1 x2 x3 x4).fr (by rw [dr _ (by omega) (by omega) (by omega), cr _ (by omega) (by omega), b10])) (fun i i0 i1 => ⟨by rw [dr _ (by omega) (by omega) (by omega)]; exact c3 i i0 i1, gsl i i0 i1⟩) (W0_ok hs hT) (fun i x x1 x2 x3 x4 => by rw [dr (v + 11) (by omega) (by omega) (by omega), dr (v + 12) (by omega) (by omega) (by omega), cr (v + 11) (by omega) (by omega), cr (v + 12) (by omega) (by omega)]; exact b5 i x x1 x2 x3 x4) M161 MM
    have fe : Fr (jugC v) h e := fd.tr (e2.mono (fun a b z => w_jug z))
    have er : ∀ x, x ≠ v → x ≠ v + 11 → x ≠ v + 12 → e x = d x := fun x h1 h2 h3 => e2.row x (fun y => by unfold wC; simp; omega)
    have ev : ∀ x, x ≠ 10 → e v x = d v x := fun x h1 => e2 v x (by unfold wC; simp; omega)
    have evv : ∀ x, x ≠ 6 → x ≠ 7 → x ≠ 10 → e v x = g v x := fun x h1 h2 h3 => by rw [ev x h3, dv x h2, cv x h3, bv x h1 h3]
    have e6 : e v 6 = foS S T := by
      rw [ev _ (by decide), dv _ (by decide), cv _ (by decide), b3]
      unfold foS fcS
      rw [if_neg hk, filter_N hliv, List.length_map]
    have e7 : e v 7 = (goS S T).length := by rw [ev _ (by decide)]; exact d3
    have eg : ∀ (i : Nat) (q : Int), (goS S T)[i]? = some q → e (v + 7) i = q ∧ e (v + 8) i = GS S T q := fun i q hq => by
      rw [er _ (by omega) (by omega) (by omega), er _ (by omega) (by omega) (by omega)]
      exact d4 i q hq
    rw [e1]
    simp only [Option.bind_some]
    unfold fX1_judge_b69
    simp only [pput, Option.bind_some]
    have pfl := PS_fl (T := T) hs hT
    by_cases cl : (PS S T).2.2 = 1
    · have nc : clsh S T := ⟨hk, cl⟩
      have ew : whyS S T = 5 := by unfold whyS; rw [if_neg nn, if_pos nc]
      have cl' : (Pk S (GS S T) (W0S S T) (mS S T)).2.2 = 1 := cl
      rw [if_pos cl', if_pos rfl]
      generalize hx : hup e v 5 5 = x
      have xa : ∀ a, a ≠ v → x a = e a := fun a ha => by rw [← hx, hup_off ha]
      have xv : ∀ b, b ≠ 5 → x v b = e v b := fun b hb => by rw [← hx, hup_ne (fun z => hb z.2)]
      have x5 : x v 5 = 5 := by rw [← hx, hup_at]
      have fx : Fr (jugC v) h x := fe.tr (by rw [← hx]; exact Fr.up (by unfold jugC; simp))
      rw [x5, if_neg (by decide)]
      refine ⟨x, ?_, jug_lay hv fx hL, toF fx, ?_⟩
      · unfold fX1_judge_b83 fX1_judge_b136
        rw [x5, if_neg (by decide), ew]
      · refine ⟨by rw [xv _ (by decide), evv _ (by decide) (by decide) (by decide)]; exact g4, by rw [x5, ew], by rw [xv _ (by decide)]; exact e6, by rw [xv _ (by decide)]; exact e7, fun i q hq => by rw [xa _ (by omega), xa _ (by omega)]; exact eg i q hq, ?_, fun z => by rw [ew] at z; exact absurd z (by decide), ?_, fun _ z => absurd nc z⟩
        · rw [xv _ (by decide), evv _ (by decide) (by decide) (by decide), g8]
          unfold chS5
          rw [if_pos (Or.inr cl)]
        · unfold vioN
          rw [if_pos (Or.inr nc)]
          refine vio0 ?_
          rw [xa _ (by omega), er _ (by omega) (by omega) (by omega), dr _ (by omega) (by omega) (by omega), cr _ (by omega) (by omega), b2 (v + 5) 0 (by unfold frwC; simp), ar _ (by omega)]
          exact gv5
    · have nc : ¬ clsh S T := fun z => cl z.2
      have cl0 : (PS S T).2.2 = 0 := pfl.2.2.resolve_right cl
      have cl' : ¬ (Pk S (GS S T) (W0S S T) (mS S T)).2.2 = 1 := cl
      obtain ⟨eE, -⟩ := e3 cl0
      rw [if_neg cl', if_neg (by decide)]
      generalize hx : hup e v 5 0 = x
      have xa : ∀ a, a ≠ v → x a = e a := fun a ha => by rw [← hx, hup_off ha]
      have xv : ∀ b, b ≠ 5 → x v b = e v b := fun b hb => by rw [← hx, hup_ne (fun z => hb z.2)]
      have x5 : x v 5 = 0 := by rw [← hx, hup_at]
      have fx : Fr (jugC v) h x := fe.tr (by rw [← hx]; exact Fr.up (by unfold jugC; simp))
      have hJx := hJ.fr hv fx
      rw [x5, if_pos rfl]
      obtain ⟨k, k1, k2, k3, k4, k5, k6⟩ := build_ok (G := GS S T) (W := (PS S T).1) hv hva hJx (fun i i0 i1 => ⟨by rw [xa _ (by omega), er _ (by omega) (by omega) (by omega), dr _ (by omega) (by omega) (by omega)]; exact c3 i i0 i1, gsl i i0 i1⟩) (fun i c x1 x2 x3 x4 => by rw [xa _ (by omega), xa _ (by omega)]; exact eE i c x1 x2 x3 x4) (by rw [xv _ (by decide), evv _ (by decide) (by decide) (by decide)]; exact g8) (by rw [xv _ (by decide), e7]; omega)
      rw [k1]
      simp only [Option.bind_some]
      have kv : ∀ b, b ≠ 8 → b ≠ 9 → k v b = x v b := fun b h1 h2 => k2 v b (by unfold buC rwC; simp; omega)
      have kr : ∀ a, v + 5 ≤ a → k a = x a := fun a h1 => k2.row a (fun b => by unfold buC rwC; simp; omega)
      have ech : chS S (GS S T) (PS S T).1 N n = chgS S T := by
        unfold chS chgS
        rw [filter_N hliv, List.length_map]
      have en : newS S T = bldS S (GS S T) (PS S T).1 := by unfold newS; rw [if_neg hk]
      refine fin k (fx.tr (k2.mono (fun a b z => bu_jug z))) (by rw [kv _ (by decide) (by decide), xv _ (by decide), evv _ (by decide) (by decide) (by decide)]; exact g4) (by rw [kv _ (by decide) (by decide)]; exact x5) (by rw [kv _ (by decide) (by decide), xv _ (by decide)]; exact e6) (by rw [kv _ (by decide) (by decide), xv _ (by decide)]; exact e7) (fun i q hq => by rw [kr _ (by omega), kr _ (by omega), xa _ (by omega), xa _ (by omega)]; exact eg i q hq) ?_ ?_ nn nc ?_ ?_
      · rw [k3, ech]
        unfold chS5
        rw [if_neg (by omega)]
      · rw [k4, ech, xv _ (by decide), e7]
        unfold tcS
        rw [if_neg hk]
      · rw [en]; exact k6
      · rw [en, bl_lo (by decide), k5, (far fx).2.1]; exact hr14
