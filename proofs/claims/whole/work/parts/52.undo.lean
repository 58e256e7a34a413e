/-! THE MODEL'S COPIES; STATES DO NOT SEE MORE THAN THEIR ROW -/
def EqS (S S' : Int → Int) : Prop := ∀ i, 0 ≤ i → i < 1239 → S i = S' i
theorem EqS.sy {S S' : Int → Int} (h : EqS S S') : EqS S' S := fun i a b => (h i a b).symm
theorem alv_cong {al al' : Int → Int} (h : ∀ q, 0 ≤ q → q < 99 → al q = al' q) : alv al = alv al' := List.filter_congr (fun q hq => by rw [h q (mem_rng.mp hq).1 (mem_rng.mp hq).2])
theorem RowsR.cong {h : hH} {r : Int} {al tb ce al' tb' ce' : Int → Int} (hR : RowsR h r al tb ce) (e1 : ∀ q, 0 ≤ q → q < 99 → al q = al' q) (e2 : ∀ q, 0 ≤ q → q < 99 → al q = 1 → tb q = tb' q) (e3 : ∀ q c, 0 ≤ q → q < 99 → al q = 1 → 0 ≤ c → c < 4 → ce (4 * q + c) = ce' (4 * q + c)) : RowsR h r al' tb' ce' := by
  obtain ⟨n0, n1, hd, hinc, hbit, hall⟩ := hR
  refine ⟨n0, n1, fun i i0 i1 => ?_, hinc, fun q q0 q1 => by rw [← e1 q q0 q1]; exact hbit q q0 q1, fun q q0 q1 hq => hall q q0 q1 (by rw [e1 q q0 q1]; exact hq)⟩
  obtain ⟨m0, m1, m2, m3, m4⟩ := hd i i0 i1
  exact ⟨m0, m1, by rw [← e1 _ m0 m1]; exact m2, by rw [← e2 _ m0 m1 m2]; exact m3, fun c x y => by rw [← e3 _ c m0 m1 m2 x y]; exact m4 c x y⟩
theorem StH.cong {h : hH} {s : Int} {S S' : Int → Int} (hH : StH h s S) (e : EqS S S') : StH h s S' := by
  obtain ⟨r1, r2, r3, r4⟩ := hH
  refine ⟨RowsR.cong r1 (fun q a b => e _ (by omega) (by omega)) (fun q a b _ => e _ (by omega) (by omega)) (fun q c a b _ x y => e _ (by omega) (by omega)), by rw [← e 148 (by decide) (by decide)]; exact r2, by rw [← e 149 (by decide) (by decide)]; exact r3, fun z => ?_⟩
  rw [← e 149 (by decide) (by decide)] at z
  exact RowsR.cong (r4 z) (fun q a b => e _ (by omega) (by omega)) (fun q a b _ => e _ (by omega) (by omega)) (fun q c a b _ x y => e _ (by omega) (by omega))
theorem ValOk.cong {S S' al tb ce al' tb' ce' : Int → Int} (hV : ValOk S al tb ce) (e0 : EqS S S') (hT : S 0 ≤ 4) (e1 : ∀ q, 0 ≤ q → q < 99 → al q = al' q) (e2 : ∀ q, 0 ≤ q → q < 99 → al q = 1 → tb q = tb' q) (e3 : ∀ q c, 0 ≤ q → q < 99 → al q = 1 → 0 ≤ c → c < 4 → ce (4 * q + c) = ce' (4 * q + c)) : ValOk S' al' tb' ce' := by
  intro q q0 q1 hq
  rw [← e1 q q0 q1] at hq
  obtain ⟨a, b⟩ := hV q q0 q1 hq
  rw [← e2 q q0 q1 hq, ← e0 0 (by decide) (by decide), ← e0 (4 + tb q) (by omega) (by omega)]
  refine ⟨a, fun c c0 c1 => ?_⟩
  rw [← e3 q c q0 q1 hq c0 c1]
  exact b c c0 c1
theorem SVal.vo {S : Int → Int} : SVal S ↔ ValOk S (fun q => S (150 + q)) (fun q => S (249 + q)) (fun i => S (348 + i)) := Iff.rfl
theorem StOk.cong {S S' : Int → Int} (hO : StOk S) (e : EqS S S') (hT : S 0 ≤ 4) : StOk S' := by
  obtain ⟨o1, o2, o3, o4, o5, o6, o7⟩ := hO
  have e148 := e 148 (by decide) (by decide)
  have e149 := e 149 (by decide) (by decide)
  refine ⟨by rw [← e148]; exact o1, by rw [← e149]; exact o2, SVal.vo.mpr (ValOk.cong (SVal.vo.mp o3) e hT (fun q a b => e _ (by omega) (by omega)) (fun q a b _ => e _ (by omega) (by omega)) (fun q c a b _ x y => e _ (by omega) (by omega))), fun q a b z => ?_, fun q a b => ?_, ?_, fun z => ?_⟩
  · rw [← e148]; exact o4 q a b (by rw [e _ (by omega) (by omega)]; exact z)
  · rw [← e _ (by omega) (by omega)]; exact o5 q a b
  · unfold liv
    rw [← alv_cong (fun q a b => e (150 + q) (by omega) (by omega))]
    exact o6
  · rw [← e149] at z
    obtain ⟨p1, p2, p3, p4⟩ := o7 z
    refine ⟨ValOk.cong p1 e hT (fun q a b => e _ (by omega) (by omega)) (fun q a b _ => e _ (by omega) (by omega)) (fun q c a b _ x y => e _ (by omega) (by omega)), fun q a b z => ?_, fun q a b => ?_, ?_⟩
    · rw [← e148]; exact p2 q a b (by rw [e _ (by omega) (by omega)]; exact z)
    · rw [← e _ (by omega) (by omega)]; exact p3 q a b
    · rw [← alv_cong (fun q a b => e (744 + q) (by omega) (by omega))]
      exact p4
/-- the state as it lies in a row A of 1091 numbers, from its place o on, with the schema of now -/
def slA (h : hH) (A o : Int) : Int → Int := fun i => if i < 148 then h 194 i else h A (o + (i - 148))
def sl (h : hH) (j : Int) : Int → Int := slA h 212 (1091 * j)
/-- the model's rows lie as they are told -/
def mC (A : Int) (a b : Int) : Bool := a == A && decide (0 ≤ b)
theorem seg_fr {h : hH} {A off n : Int} {src : Int → Int} {C : Int → Int → Bool} (hc : ∀ b, 0 ≤ b → C A b = true) (h0 : 0 ≤ off) : Fr C h (seg h A off n src) := by
  intro a b z
  by_cases e : a = A ∧ off ≤ b ∧ b < off + n
  · rw [e.1, hc b (by omega)] at z
    cases z
  · exact if_neg e
theorem tries_ok {h : hH} (hL : Lay h) : ∃ h', fX12_tries h 192 = some h' ∧ h' = seg h 213 0 1091 (fun i => h 194 (148 + i)) := by
  have e45 := ly_192_45 hL
  have e6 := ly_192_6 hL
  have l213 := ll_213 hL
  have l194 := ll_194 hL
  unfold fX12_tries
  refine cp_loop 213 0 1091 (fun i => h 194 (148 + i)) (fun h' => h' = _) (by decide) (fun i h' i0 i1 hI => ?_) ⟨_, ?_, rfl⟩
  · have g : ∀ a, a ≠ 213 → h' a = h a := fun a ha => by rw [hI, seg_off ha]
    have gl : h' 213 (-1) = 1091 := by rw [hI, seg_out (by omega), l213]
    unfold fX12_tries_s2
    simp (disch := omega) only [if_pos i1, w32_id]
    have q : aget h' 194 (148 + i) = some (h 194 (148 + i)) := by rw [aget_in (by omega) (by rw [g 194 (by decide)]; omega), g 194 (by decide)]
    rw [g 192 (by decide), e6, q]
    simp only [Option.bind_some]
    rw [e45, aput_in (by omega) (by omega), Int.zero_add]
    rfl
  · unfold fX12_tries_s2
    simp only [if_neg (show ¬ (1091 : Int) < 1091 by decide)]
def stM (a b : Int) : Bool := (a == 212 && decide (0 ≤ b)) || (a == 192 && b == 44)
theorem stores_b {h : hH} (hL : Lay h) {A m : Int} (hA : h A (-1) = 1091) (hA2 : A ≠ 212 ∧ A ≠ 192) (hm : h 192 44 = m) (m0 : 0 ≤ m) (m1 : m < 8) : fX12_stores_b46 h 192 A = some (hup (seg h 212 (1091 * m) 1091 (h A)) 192 44 (m + 1)) := by
  have e43 := ly_192_43 hL
  have l212 := ll_212 hL
  have key := cp_loop (f := fX12_stores_s48 h 192 A) (h := h) 212 (1091 * m) 1091 (h A) (fun h' => h' = hup (seg h 212 (1091 * m) 1091 (h A)) 192 44 (m + 1)) (by decide) (fun i h' i0 i1 hI => ?_) ⟨_, ?_, rfl⟩
  · obtain ⟨r, r1, r2⟩ := key
    unfold fX12_stores_b46
    rw [r1, r2]
  · have g : ∀ a, a ≠ 212 → h' a = h a := fun a ha => by rw [hI, seg_off ha]
    have gl : h' 212 (-1) = 8728 := by rw [hI, seg_out (by omega), l212]
    unfold fX12_stores_s48
    simp (disch := omega) only [if_pos i1, g 192 (by decide), hm, e43, w32_id]
    rw [aget_in i0 (by rw [g A hA2.1]; omega), g A hA2.1]
    simp only [Option.bind_some]
    rw [aput_in (by omega) (by omega)]
    rfl
  · unfold fX12_stores_s48
    simp (disch := omega) only [if_neg (show ¬ (1091 : Int) < 1091 by decide), pput, Option.bind_some, seg_off, hm, w32_id]
theorem stores_ok {h : hH} (hL : Lay h) {A m : Int} (hA : h A (-1) = 1091) (hA2 : A ≠ 212 ∧ A ≠ 192) (hm : h 192 44 = m) (m0 : 0 ≤ m) (m1 : m ≤ 8) : ∃ h', fX12_stores h 192 A = some h' ∧ Fr stM h h' ∧ h' 192 44 = (if m = 8 then 8 else m + 1) ∧ (∀ j i, 0 ≤ j → j < (if m = 8 then 7 else m) → 0 ≤ i → i < 1091 → h' 212 (1091 * j + i) = h 212 (1091 * (if m = 8 then j + 1 else j) + i)) ∧ (∀ i, 0 ≤ i → i < 1091 → h' 212 (1091 * (if m = 8 then 7 else m) + i) = h A i) := by
  have e43 := ly_192_43 hL
  have l212 := ll_212 hL
  unfold fX12_stores
  by_cases z : m = 8
  · rw [hm, if_pos z]
    simp only [if_pos z]
    have key := cp_loop (f := fX12_stores_s11 h 192 A) (h := h) 212 0 7637 (fun i => h 212 (i + 1091)) (fun h' => h' = hup (seg (hup (seg h 212 0 7637 (fun i => h 212 (i + 1091))) 192 44 7) 212 (1091 * 7) 1091 (h A)) 192 44 8) (by decide) (fun i h' i0 i1 hI => ?_) ⟨_, ?_, rfl⟩
    · obtain ⟨r, r1, r2⟩ := key
      refine ⟨r, r1, ?_, ?_, fun j i j0 j1 i0 i1 => ?_, fun i i0 i1 => ?_⟩
      · rw [r2]
        refine Fr.tr (Fr.tr (Fr.tr (seg_fr (fun b hb => ?_) (by decide)) (Fr.up (by decide))) (seg_fr (fun b hb => ?_) (by decide))) (Fr.up (by decide))
        · unfold stM; simp; omega
        · unfold stM; simp; omega
      · rw [r2, hup_at]
      · rw [r2, hup_off (by decide), seg_out (by omega), hup_off (by decide), seg_in (by omega) (by omega)]
        congr 1
        omega
      · rw [r2, hup_off (by decide), seg_in (by omega) (by omega)]
        congr 1
        omega
    · have g : ∀ a, a ≠ 212 → h' a = h a := fun a ha => by rw [hI, seg_off ha]
      have gl : h' 212 (-1) = 8728 := by rw [hI, seg_out (by omega), l212]
      have gr : h' 212 (i + 1091) = h 212 (i + 1091) := by rw [hI, seg_out (by omega)]
      unfold fX12_stores_s11
      simp (disch := omega) only [if_pos i1, g 192 (by decide), e43, w32_id]
      rw [aget_in (by omega) (by omega), gr]
      simp only [Option.bind_some]
      rw [aput_in (by omega) (by omega), Int.zero_add]
      rfl
    · unfold fX12_stores_s11
      simp (disch := omega) only [if_neg (show ¬ (7637 : Int) < 7637 by decide), pput, Option.bind_some]
      generalize hg : hup (seg h 212 0 7637 (fun i => h 212 (i + 1091))) 192 44 7 = g
      have gA : g A = h A := by rw [← hg, hup_off hA2.2, seg_off hA2.1]
      have gL : Lay g := by
        have hf : Fr stM h g := by
          rw [← hg]
          refine Fr.tr (seg_fr (fun b hb => ?_) (by decide)) (Fr.up (by decide))
          unfold stM; simp; omega
        exact hf.lay hL (by decide) (by decide)
      rw [stores_b gL (m := 7) (by rw [gA]; exact hA) hA2 (by rw [← hg, hup_at]) (by decide) (by decide), gA]
      rfl
  · rw [hm, if_neg z]
    simp only [if_neg z]
    rw [stores_b hL hA hA2 hm m0 (by omega)]
    refine ⟨_, rfl, ?_, hup_at, fun j i j0 j1 i0 i1 => ?_, fun i i0 i1 => ?_⟩
    · refine Fr.tr (seg_fr (fun b hb => ?_) (by omega)) (Fr.up (by decide))
      unfold stM; simp; omega
    · rw [hup_off (by decide), seg_out (by omega)]
    · rw [hup_off (by decide), seg_in (by omega) (by omega)]
      congr 1
      omega
