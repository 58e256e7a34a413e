/-! READING A SCHEMA: lines -/
section SIM
variable {B : Int → Int} {L M n : Int} {K A V E : Int → Int}
theorem ln_w : (499850046565 : Int) = rs256 0 ∧ (7038329 : Int) = rs256 1 ∧ (7497062 : Int) = rs256 2 ∧ (28258988067220596 : Int) = rs256 10 ∧ (1852138852 : Int) = rs256 11 ∧ (426953237355 : Int) = rs256 12 := by decide +kernel
def FullC (c : hH) (k : Int) : Prop := (k = 128 ∧ 4 ≤ c 25 0) ∨ (k = 129 ∧ 6 ≤ c 25 1) ∨ (k = 130 ∧ 6 ≤ c 25 2) ∨ (k = 140 ∧ 6 ≤ c 25 3)
theorem full_ok {c : hH} (hL : Lay c) {k : Int} : (FullC c k → fX5_isFull c 24 k = some 1) ∧ (¬ FullC c k → fX5_isFull c 24 k = some 0) := by
  unfold FullC fX5_isFull fX5_isFull_b18 fX5_isFull_b37 fX5_isFull_b56 fX5_isFull_b75
  rw [ly_24_1 hL]
  by_cases a : k = 128
  · rw [if_pos a]
    by_cases z : c 25 0 < 4
    · rw [if_pos z, if_neg (show ¬ k = 129 by omega), if_neg (show ¬ k = 130 by omega), if_neg (show ¬ k = 140 by omega)]
      exact ⟨fun y => by omega, fun _ => rfl⟩
    · rw [if_neg z]
      exact ⟨fun _ => rfl, fun y => absurd (Or.inl ⟨a, by omega⟩) y⟩
  · rw [if_neg a]
    by_cases b : k = 129
    · rw [if_pos b]
      by_cases z : c 25 1 < 6
      · rw [if_pos z, if_neg (show ¬ k = 130 by omega), if_neg (show ¬ k = 140 by omega)]
        exact ⟨fun y => by omega, fun _ => rfl⟩
      · rw [if_neg z]
        exact ⟨fun _ => rfl, fun y => absurd (Or.inr (Or.inl ⟨b, by omega⟩)) y⟩
    · rw [if_neg b]
      by_cases d : k = 130
      · rw [if_pos d]
        by_cases z : c 25 2 < 6
        · rw [if_pos z, if_neg (show ¬ k = 140 by omega)]
          exact ⟨fun y => by omega, fun _ => rfl⟩
        · rw [if_neg z]
          exact ⟨fun _ => rfl, fun y => absurd (Or.inr (Or.inr (Or.inl ⟨d, by omega⟩))) y⟩
      · rw [if_neg d]
        by_cases e : k = 140
        · rw [if_pos e]
          by_cases z : c 25 3 < 6
          · rw [if_pos z]
            exact ⟨fun y => by omega, fun _ => rfl⟩
          · rw [if_neg z]
            exact ⟨fun _ => rfl, fun y => absurd (Or.inr (Or.inr (Or.inr ⟨e, by omega⟩))) y⟩
        · rw [if_neg e]
          exact ⟨fun y => by omega, fun _ => rfl⟩
theorem b193_0 {c : hH} : fX5_readSchema_b193 c 24 0 = some (.inr (0, c)) := by
  unfold fX5_readSchema_b193
  rw [if_pos rfl]
theorem line2 {c g : hH} {j : Int} (x0 : hH) (hC : Chain B L M n K A V E) (hc : SC n K A V j c) (hg : SM B L M n K A V E j g) (hD : DI c g) (h0 : K j ≠ 0) (h9 : c 24 2 < 900) : ∃ b b' c' g', fX5_readSchema_s22 x0 24 c = fX5_readSchema_b193 c' 24 b ∧ fX12_readLine g 192 = some (b', g') ∧ LO B L M n K A V E j c g b b' c' g' := by
  have hs := hD.2.2.1
  have cnt := hD.2.1.1
  have b1 := hs.1
  have b2 := hs.2.1
  have b3 := hs.2.2.1
  have b4 := hs.2.2.2.1
  obtain ⟨p1, p2, p3, p4, p5, p6⟩ := ln_w
  obtain ⟨c1, f1, f2, f3⟩ := failC (k := 1) hc
  obtain ⟨g1, f4, f5, f6⟩ := badM (k := 1) hg
  obtain ⟨c4, f1', f2', f3'⟩ := failC (k := 4) hc
  obtain ⟨g4, f4', f5', f6'⟩ := badM (k := 4) hg
  have l1 : LO B L M n K A V E j c g 0 0 c1 g1 := ⟨f3.mono (fun a b z => tk_lc z), f6.mono (fun a b z => tx_lm z), Or.inl ⟨rfl, rfl, 1, A j, f2, f5, by decide⟩⟩
  have l4 : LO B L M n K A V E j c g 0 0 c4 g4 := ⟨f3'.mono (fun a b z => tk_lc z), f6'.mono (fun a b z => tx_lm z), Or.inl ⟨rfl, rfl, 4, A j, f2', f5', by decide⟩⟩
  obtain ⟨full1, full0⟩ := full_ok hc.1 (k := K j)
  unfold fX5_readSchema_s22 fX12_readLine
  rw [ly_24_0 hc.1, hc.k, if_neg h0, if_pos h9, p1, p2, p3, p4, p5, p6, isWordM hg (by decide) (by decide), isWordM hg (by decide) (by decide), isWordM hg (by decide) (by decide), isWordM hg (by decide) (by decide), isWordM hg (by decide) (by decide), isWordM hg (by decide) (by decide), f1, f1', f4, row195 hg.1.1 (by decide) (by decide), row195 hg.1.1 (by decide) (by decide), row195 hg.1.1 (by decide) (by decide), f4']
  simp only [Option.bind_some]
  by_cases hF : FullC c (K j)
  · rw [full1 hF]
    simp only [Option.bind_some]
    rw [if_neg (show ¬ (1 : Int) = 0 by decide)]
    refine ⟨0, 0, c4, g4, b193_0.symm, ?_, l4⟩
    unfold FullC at hF
    rw [cnt.1, cnt.2.1, cnt.2.2.1, cnt.2.2.2] at hF
    rcases hF with ⟨k, z⟩ | ⟨k, z⟩ | ⟨k, z⟩ | ⟨k, z⟩
    · rw [if_pos (show K j = 128 + 0 by omega), if_neg (show ¬ (1 : Int) = 0 by decide)]
      unfold fX12_readTable
      rw [row195 hg.1.1 (by decide) (by decide)]
      simp only [Option.bind_some]
      rw [if_pos (show g 195 0 = 4 by omega), f4']
      rfl
    · rw [if_neg (show ¬ K j = 128 + 0 by omega), if_pos rfl, if_pos (show K j = 128 + 1 by omega), if_neg (show ¬ (1 : Int) = 0 by decide), if_pos (show g 195 1 = 6 by omega)]
    · rw [if_neg (show ¬ K j = 128 + 0 by omega), if_pos rfl, if_neg (show ¬ K j = 128 + 1 by omega), if_pos rfl, if_pos (show K j = 128 + 2 by omega), if_neg (show ¬ (1 : Int) = 0 by decide), if_pos (show g 195 2 = 6 by omega)]
    · rw [if_neg (show ¬ K j = 128 + 0 by omega), if_pos rfl, if_neg (show ¬ K j = 128 + 1 by omega), if_pos rfl, if_neg (show ¬ K j = 128 + 2 by omega), if_pos rfl, if_neg (show ¬ K j = 128 + 10 by omega), if_pos rfl, if_neg (show ¬ K j = 128 + 11 by omega), if_pos rfl, if_pos (show K j = 128 + 12 by omega), if_neg (show ¬ (1 : Int) = 0 by decide), if_pos (show g 195 3 = 6 by omega)]
  · rw [full0 hF]
    simp only [Option.bind_some, if_true]
    unfold FullC at hF
    rw [cnt.1, cnt.2.1, cnt.2.2.1, cnt.2.2.2] at hF
    by_cases k0 : K j = 128
    · obtain ⟨b, b', c', g', r1, r2, r3⟩ := readTable2 hC hc hg hD k0 (by omega)
      rw [if_pos k0, if_pos (show K j = 128 + 0 by omega), if_neg (show ¬ (1 : Int) = 0 by decide), r1, r2]
      exact ⟨b, b', c', g', rfl, rfl, r3⟩
    rw [if_neg k0, if_neg (show ¬ K j = 128 + 0 by omega), if_pos (show (0 : Int) = 0 from rfl)]
    by_cases k1 : K j = 129
    · obtain ⟨b, b', c', g', r1, r2, r3⟩ := readKey2 hC hc hg hD k1 (by omega)
      rw [if_pos k1, if_pos (show K j = 128 + 1 by omega), if_neg (show ¬ (1 : Int) = 0 by decide), if_neg (show ¬ g 195 1 = 6 by omega), r1, r2]
      exact ⟨b, b', c', g', rfl, rfl, r3⟩
    rw [if_neg k1, if_neg (show ¬ K j = 128 + 1 by omega), if_pos (show (0 : Int) = 0 from rfl)]
    by_cases k2 : K j = 130
    · obtain ⟨b, b', c', g', r1, r2, r3⟩ := readRef2 hC hc hg hD k2 (by omega)
      rw [if_pos k2, if_pos (show K j = 128 + 2 by omega), if_neg (show ¬ (1 : Int) = 0 by decide), if_neg (show ¬ g 195 2 = 6 by omega), r1, r2]
      exact ⟨b, b', c', g', rfl, rfl, r3⟩
    rw [if_neg k2, if_neg (show ¬ K j = 128 + 2 by omega), if_pos (show (0 : Int) = 0 from rfl)]
    by_cases k10 : K j = 138
    · obtain ⟨b, b', c', g', r1, r2, r3⟩ := readDefault2 hC hc hg hD k10
      rw [if_neg (show ¬ K j = 131 by omega), if_neg (show ¬ K j = 132 by omega), if_neg (show ¬ K j = 133 by omega), if_neg (show ¬ K j = 134 by omega), if_neg (show ¬ K j = 135 by omega), if_neg (show ¬ K j = 136 by omega), if_neg (show ¬ K j = 137 by omega), if_pos k10, if_pos (show K j = 128 + 10 by omega), if_neg (show ¬ (1 : Int) = 0 by decide), r1, r2]
      exact ⟨b, b', c', g', rfl, rfl, r3⟩
    rw [if_neg (show ¬ K j = 128 + 10 by omega), if_pos (show (0 : Int) = 0 from rfl)]
    by_cases k11 : K j = 139
    · obtain ⟨b, b', c', g', r1, r2, r3⟩ := readNeed2 hC hc hg hD k11
      rw [if_neg (show ¬ K j = 131 by omega), if_neg (show ¬ K j = 132 by omega), if_neg (show ¬ K j = 133 by omega), if_neg (show ¬ K j = 134 by omega), if_neg (show ¬ K j = 135 by omega), if_neg (show ¬ K j = 136 by omega), if_neg (show ¬ K j = 137 by omega), if_neg k10, if_pos k11, if_pos (show K j = 128 + 11 by omega), if_neg (show ¬ (1 : Int) = 0 by decide), r1, r2]
      exact ⟨b, b', c', g', rfl, rfl, r3⟩
    rw [if_neg (show ¬ K j = 128 + 11 by omega), if_pos (show (0 : Int) = 0 from rfl)]
    by_cases k12 : K j = 140
    · obtain ⟨b, b', c', g', r1, r2, r3⟩ := readCheck2 hC hc hg hD k12 (by omega)
      rw [if_neg (show ¬ K j = 131 by omega), if_neg (show ¬ K j = 132 by omega), if_neg (show ¬ K j = 133 by omega), if_neg (show ¬ K j = 134 by omega), if_neg (show ¬ K j = 135 by omega), if_neg (show ¬ K j = 136 by omega), if_neg (show ¬ K j = 137 by omega), if_neg k10, if_neg k11, if_pos k12, if_pos (show K j = 128 + 12 by omega), if_neg (show ¬ (1 : Int) = 0 by decide), if_neg (show ¬ g 195 3 = 6 by omega), r1, r2]
      exact ⟨b, b', c', g', rfl, rfl, r3⟩
    rw [if_neg (show ¬ K j = 128 + 12 by omega), if_pos (show (0 : Int) = 0 from rfl), if_neg k10, if_neg k11, if_neg k12]
    refine ⟨0, 0, c1, g1, ?_, rfl, l1⟩
    rw [b193_0]
    simp only [ite_self]
/-- what reading all lines changes -/
def lcF2 (a b : Int) : Bool := lcF a b || (a == 24 && b == 2)
def lmF2 (a b : Int) : Bool := lmF a b || (a == 192 && b == 20)
theorem lcF2_lay1 : refT.all (fun q => !(lcF2 q.1 q.2.1)) = true := by decide +kernel
theorem lcF2_lay2 : lenT.all (fun q => !(lcF2 q.1 (-1))) = true := by decide +kernel
theorem lmF2_lay1 : refT.all (fun q => !(lmF2 q.1 q.2.1)) = true := by decide +kernel
theorem lmF2_lay2 : lenT.all (fun q => !(lmF2 q.1 (-1))) = true := by decide +kernel
theorem lc_2 {a b : Int} (z : lcF a b = true) : lcF2 a b = true := by unfold lcF2; rw [z]; rfl
theorem lm_2 {a b : Int} (z : lmF a b = true) : lmF2 a b = true := by unfold lmF2; rw [z]; rfl
theorem schemaLoop {c0 g0 : hH} (hC : Chain B L M n K A V E) (hM : M ≤ 900) (x0 x1 : hH) : ∀ (d : Nat) (j lines : Int) (c g : hH), (n - j).toNat ≤ d → SC n K A V j c → SM B L M n K A V E j g → DI c g → c 24 2 = lines → g 192 20 = lines → 0 ≤ lines → 2 * lines ≤ j → Fr lcF2 c0 c → Fr lmF2 g0 g → c 1 8 = 0 →
    ∃ b c', lpO (fX5_readSchema_s22 x0 24) c = some (b, c') ∧ Fr lcF2 c0 c' ∧ ((b = 0 ∧ ∃ k a g', FRc k a c' ∧ 1 ≤ k ∧ lpO (fX12_schema_s64 x1 192) g = some (w32 (-1 - a), g') ∧ FRm k a g' ∧ Fr lmF2 g0 g') ∨
      (b = 1 ∧ ∃ g1, (∀ r, lpO (fX12_schema_s109 g1 192) (g1, 0) = some r → lpO (fX12_schema_s64 x1 192) g = some r) ∧ Fr lmF2 g0 g1 ∧ Lay g1 ∧ DI c' g1 ∧ c' 24 2 = g1 192 20 ∧ c' 1 8 = 0 ∧ g1 192 16 = 0)) := by
  intro d
  induction d with
  | zero =>
    intro j lines c g hd hc
    exfalso
    have := hc.2.2.2.2
    omega
  | succ d ih =>
    intro j lines c g hd hc hg hD hl hl' l0 lj fc fg e8
    have n9 := hC.1.2
    have jn := hc.2.2.2.2
    by_cases h0 : K j = 0
    · have cs : fX5_readSchema_s22 x0 24 c = some (.inr (1, c)) := by
        unfold fX5_readSchema_s22
        rw [ly_24_0 hc.1, hc.k, if_pos h0]
      refine ⟨1, c, lpO_inr cs, fc, Or.inr ⟨rfl, g, ?_, fg, hg.1.1, hD, by rw [hl, hl'], e8, hg.2.2.1.2⟩⟩
      intro r hr
      refine lpO_inr ?_
      unfold fX12_schema_s64
      rw [if_pos (hg.tok.1.mpr h0), hr]
      rfl
    · obtain ⟨b, b', c1, g1, r1, r2, fc1, fg1, r3⟩ := line2 x0 hC hc hg hD h0 (by rw [hl]; omega)
      have k0 : ¬ g 192 12 = 0 := fun z => h0 (hg.tok.1.mp z)
      have fcc := fc.tr (fc1.mono (fun a b z => lc_2 z))
      have fgg := fg.tr (fg1.mono (fun a b z => lm_2 z))
      have c12 : c1 24 2 = lines := by rw [fc1 24 2 (by decide)]; exact hl
      have g120 : g1 192 20 = lines := by rw [fg1 192 20 (by decide)]; exact hl'
      -- the model's bad end
      have mbad : ∀ k a, b' = 0 → FRm k a g1 → lpO (fX12_schema_s64 x1 192) g = some (w32 (-1 - a), g1) := fun k a hb hf => by
        refine lpO_inr ?_
        unfold fX12_schema_s64
        rw [if_neg k0, r2, hb]
        simp only [Option.bind_some, if_true]
        unfold fX12_schema_b87
        rw [hf.2]
        rfl
      rcases r3 with ⟨rfl, rfl, k, a, f1, f2, f3⟩ | ⟨rfl, j', S1, jj, e8', r3⟩
      · exact ⟨0, c1, lpO_inr (by rw [r1, b193_0]), fcc, Or.inl ⟨rfl, k, a, g1, f1, f3, mbad k a rfl f2, f2, fgg⟩⟩
      · have hb : fX5_readSchema_b193 c1 24 1 = (fX9_take c1 1 59).bind fun q203 => if q203.1 = 0 then some (.inr ((0, q203.2))) else (pput q203.2 24 2 (w32 ((q203.2 24 2) + 1))).bind fun h218 => some (.inl h218) := by
          unfold fX5_readSchema_b193
          rw [if_neg (show ¬ (1 : Int) = 0 by decide), ly_24_0 S1.1]
        rcases r3 with ⟨rfl, U1, hD1⟩ | ⟨rfl, f, k59⟩
        · obtain ⟨b2, c2, g2, t1, t2, t3⟩ := take2 (i := 59) hC S1 U1 (by unfold sgn; decide)
          have hm : fX12_schema_s64 x1 192 g = if b2 = 0 then (fX12_schema_b87 g2 192).map (fun z9 => .inr (z9)) else (pput g2 192 20 (w32 ((g2 192 20) + 1))).bind fun h101 => some (.inl h101) := by
            unfold fX12_schema_s64
            rw [if_neg k0, r2]
            simp only [Option.bind_some]
            rw [if_neg (show ¬ (1 : Int) = 0 by decide), t2]
            simp only [Option.bind_some]
          rw [t1] at hb
          simp only [Option.bind_some] at hb
          rcases t3 with ⟨rfl, ⟨⟨k, a, f1, f2, f3⟩, f4, f5⟩⟩ | ⟨rfl, k59, S2, U2, f4, f5, e82⟩
          · refine ⟨0, c2, lpO_inr (by rw [r1, hb, if_pos rfl]), fcc.tr (f4.mono (fun a b z => lc_2 (tk_lc z))), Or.inl ⟨rfl, k, a, g2, f1, f3, lpO_inr ?_, f2, fgg.tr (f5.mono (fun a b z => lm_2 (tx_lm z)))⟩⟩
            rw [hm, if_pos rfl]
            unfold fX12_schema_b87
            rw [f2.2]
            rfl
          · rw [if_neg (show ¬ (1 : Int) = 0 by decide)] at hb hm
            simp only [pput, Option.bind_some] at hb hm
            have c22 : c2 24 2 = lines := by rw [f4 24 2 (by decide)]; exact c12
            have g220 : g2 192 20 = lines := by rw [f5 192 20 (by decide)]; exact g120
            rw [c22, w1 (i := lines) (by omega) (by omega)] at hb
            rw [g220, w1 (i := lines) (by omega) (by omega)] at hm
            have nx' := nx_s hC S1.2.2.2.2 (by omega) (by omega)
            have S3 := S2.up24 (b := 2) (v := lines + 1) (Or.inl rfl)
            have U3 := U2.up (b := 20) (v := lines + 1) (by omega)
            have hD3 : DI (hup c2 24 2 (lines + 1)) (hup g2 192 20 (lines + 1)) := by
              have h2 := hD1.sc (f4.mono (fun a b z => tk_sc z)) (f5.mono (fun a b z => tx_sm z))
              have h3 := DR.per h2 (Or.inr rfl) (c' := hup c2 24 2 (lines + 1)) (g' := hup g2 192 20 (lines + 1)) (fun a a0 a1 => hup_off (by omega)) (hup_off (by decide))
              unfold DI
              rw [hup_off (a := 195) (by decide)]
              exact h3
            obtain ⟨b9, c9, y1, y2, y3⟩ := ih (nx n j') (lines + 1) _ _ (by have := hc.2.2.2.1; have := S2.2.2.2.2; omega) S3 U3 hD3 hup_at hup_at (by omega) (by omega) ((fcc.tr (f4.mono (fun a b z => lc_2 (tk_lc z)))).tr (Fr.up (by decide))) ((fgg.tr (f5.mono (fun a b z => lm_2 (tx_lm z)))).tr (Fr.up (by decide))) (by rw [hup_off (by decide), e82, e8']; exact e8)
            refine ⟨b9, c9, by rw [lpO_inl (r1.trans hb)]; exact y1, y2, ?_⟩
            rcases y3 with ⟨z1, k, a, g', z2, z3, z4, z5⟩ | ⟨z1, g9, z2, z3⟩
            · exact Or.inl ⟨z1, k, a, g', z2, z3, by rw [lpO_inl hm]; exact z4, z5⟩
            · exact Or.inr ⟨z1, g9, fun r hr => by rw [lpO_inl hm]; exact z2 r hr, z3⟩
        · obtain ⟨c2, f1, f2, f3⟩ := failC (k := 1) S1
          have ht : fX9_take c1 1 59 = some (0, c2) := by
            unfold fX9_take
            rw [S1.k, if_neg k59, f1]
            rfl
          rw [ht] at hb
          simp only [Option.bind_some, if_true] at hb
          exact ⟨0, c2, lpO_inr (r1.trans hb), fcc.tr (f3.mono (fun a b z => lc_2 (tk_lc z))), Or.inl ⟨rfl, 1, A j', g1, f2, by decide, mbad 1 (A j') rfl f, f, fgg⟩⟩
end SIM
