/-! FRAMES, COPIES, STATES -/
/-- only what C names is another -/
def Fr (C : Int → Int → Bool) (h h' : hH) : Prop := ∀ a b, C a b = false → h' a b = h a b
theorem Fr.rf {C : Int → Int → Bool} {h : hH} : Fr C h h := fun _ _ _ => rfl
theorem Fr.tr {C : Int → Int → Bool} {a b c : hH} (h1 : Fr C a b) (h2 : Fr C b c) : Fr C a c := fun x y hc => (h2 x y hc).trans (h1 x y hc)
theorem Fr.mono {C C' : Int → Int → Bool} {h h' : hH} (hf : Fr C h h') (hc : ∀ a b, C a b = true → C' a b = true) : Fr C' h h' := fun a b z => hf a b (by
  cases e : C a b
  · rfl
  · rw [hc a b e] at z; exact z)
theorem Fr.up {C : Int → Int → Bool} {h : hH} {k j v : Int} (hc : C k j = true) : Fr C h (hup h k j v) := fun a b z => hup_ne (fun y => by rw [y.1, y.2, hc] at z; cases z)
theorem Fr.row {C : Int → Int → Bool} {h h' : hH} (hf : Fr C h h') (a : Int) (hc : ∀ b, C a b = false) : h' a = h a := funext (fun b => hf a b (hc b))
theorem Fr.lay {C : Int → Int → Bool} {h h' : hH} (hf : Fr C h h') (hL : Lay h) (h1 : refT.all (fun q => !(C q.1 q.2.1)) = true) (h2 : lenT.all (fun q => !(C q.1 (-1))) = true) : Lay h' := by
  simp only [List.all_eq_true, Bool.not_eq_true'] at h1 h2
  exact hL.of (fun q hq => hf _ _ (h1 q hq)) (fun q hq => hf _ _ (h2 q hq))
/-- a stretch of a row is written -/
def seg (h : hH) (A off n : Int) (src : Int → Int) : hH := fun a b => if a = A ∧ off ≤ b ∧ b < off + n then src (b - off) else h a b
theorem seg_off {h : hH} {A off n a : Int} {src : Int → Int} (ha : a ≠ A) : seg h A off n src a = h a := funext (fun b => if_neg (fun z => ha z.1))
theorem seg_in {h : hH} {A off n b : Int} {src : Int → Int} (h1 : off ≤ b) (h2 : b < off + n) : seg h A off n src A b = src (b - off) := if_pos ⟨rfl, h1, h2⟩
theorem seg_out {h : hH} {A off n b : Int} {src : Int → Int} (h1 : b < off ∨ off + n ≤ b) : seg h A off n src A b = h A b := if_neg (by omega)
theorem seg_0 {h : hH} {A off : Int} {src : Int → Int} : seg h A off 0 src = h := by
  funext a b
  exact if_neg (by omega)
theorem seg_s {h : hH} {A off i : Int} {src : Int → Int} (i0 : 0 ≤ i) : hup (seg h A off i src) A (off + i) (src i) = seg h A off (i + 1) src := by
  funext a b
  unfold seg hup
  by_cases z : a = A ∧ b = off + i
  · rw [if_pos z, if_pos ⟨z.1, by omega, by omega⟩]
    congr 1
    omega
  · rw [if_neg z]
    dsimp only
    by_cases y : a = A ∧ off ≤ b ∧ b < off + i
    · rw [if_pos y, if_pos ⟨y.1, y.2.1, by omega⟩]
    · rw [if_neg y, if_neg (fun x => by
        by_cases w : b = off + i
        · exact z ⟨x.1, w⟩
        · exact y ⟨x.1, x.2.1, by omega⟩)]
theorem cp_loop {ρ : Type} {f : hH × Int → Option ((hH × Int) ⊕ ρ)} {h : hH} (A off n : Int) (src : Int → Int) (Q : ρ → Prop) (hn : 0 ≤ n)
    (hs : ∀ i h', 0 ≤ i → i < n → h' = seg h A off i src → f (h', i) = some (.inl (hup h' A (off + i) (src i), i + 1))) (he : ∃ r, f (seg h A off n src, n) = some (.inr r) ∧ Q r) : ∃ r, lpO f (h, 0) = some r ∧ Q r := by
  refine lpO_inv n (fun i h' => h' = seg h A off i src) Q (fun i h' i0 i1 hI => ⟨_, hs i h' i0 i1 hI, ?_⟩) (fun h' hI => ?_) (Int.le_refl _) hn seg_0.symm
  · rw [hI, seg_s i0]
  · rw [hI]; exact he
/-- an object State and what it is made of -/
def StAt (h : hH) (s : Int) : Prop := h s 0 = s + 1 ∧ h s 1 = s + 5 ∧ RowsAt h (s + 1) ∧ RowsAt h (s + 5)
def rwC (r a b : Int) : Bool := (a == r && (b == 0 || b == 1)) || (decide (r + 1 ≤ a) && decide (a ≤ r + 3) && decide (0 ≤ b))
def stC (s a b : Int) : Bool := (a == s && b == 2) || rwC (s + 1) a b || rwC (s + 5) a b
/-- rows that were copied -/
def RowsCp (h h' : hH) (s d : Int) : Prop := h' d 0 = h s 0 ∧ h' d 1 = h s 1 ∧ (∀ j, 0 ≤ j → j < 40 → h' (d + 1) j = h (s + 1) j) ∧ (∀ j, 0 ≤ j → j < 40 → h' (d + 2) j = h (s + 2) j) ∧ ∀ j, 0 ≤ j → j < 160 → h' (d + 3) j = h (s + 3) j
theorem RowsAt.fr {h h' : hH} {r : Int} {C : Int → Int → Bool} (hA : RowsAt h r) (hf : Fr C h h') (hc : C r 2 = false ∧ C r 3 = false ∧ C r 4 = false ∧ C (r + 1) (-1) = false ∧ C (r + 2) (-1) = false ∧ C (r + 3) (-1) = false) : RowsAt h' r := by
  obtain ⟨a1, a2, a3, a4, a5, a6⟩ := hA
  obtain ⟨c1, c2, c3, c4, c5, c6⟩ := hc
  exact ⟨(hf _ _ c1).trans a1, (hf _ _ c2).trans a2, (hf _ _ c3).trans a3, (hf _ _ c4).trans a4, (hf _ _ c5).trans a5, (hf _ _ c6).trans a6⟩
theorem rwC_at {r : Int} : rwC r r 2 = false ∧ rwC r r 3 = false ∧ rwC r r 4 = false ∧ rwC r (r + 1) (-1) = false ∧ rwC r (r + 2) (-1) = false ∧ rwC r (r + 3) (-1) = false := by
  unfold rwC
  refine ⟨?_, ?_, ?_, ?_, ?_, ?_⟩ <;> simp <;> omega
theorem rwC_far {r a b : Int} (h : a < r ∨ r + 3 < a) : rwC r a b = false := by
  unfold rwC
  simp
  omega
theorem rwC_row {r b : Int} (h : b ≠ 0 ∧ b ≠ 1) : rwC r r b = false := by
  unfold rwC
  simp
  omega
theorem copyRows_ok {h : hH} {s d : Int} (hs : RowsAt h s) (hd : RowsAt h d) (hn : d + 3 < s ∨ s + 3 < d) : ∃ h', fX3_copyFrom h d s = some h' ∧ RowsCp h h' s d ∧ Fr (rwC d) h h' := by
  obtain ⟨s2, s3, s4, l1, l2, l3⟩ := hs
  obtain ⟨d2, d3, d4, m1, m2, m3⟩ := hd
  unfold fX3_copyFrom fX11_copy
  simp only [pput, Option.bind_some]
  have e1 : hup h d 0 (h s 0) s 1 = h s 1 := by rw [hup_off (by omega)]
  rw [e1]
  generalize hg : hup (hup h d 0 (h s 0)) d 1 (h s 1) = g
  have gd : ∀ a, a ≠ d → g a = h a := fun a ha => by rw [← hg, hup_off ha, hup_off ha]
  have g0 : g d 0 = h s 0 := by rw [← hg, hup_ne (by omega), hup_at]
  have g1 : g d 1 = h s 1 := by rw [← hg, hup_at]
  have gx : ∀ j, j ≠ 0 → j ≠ 1 → g d j = h d j := fun j j0 j1 => by rw [← hg, hup_ne (fun z => j1 z.2), hup_ne (fun z => j0 z.2)]
  have a1 : acp g (s + 1) 0 (d + 1) 0 (miD (g (s + 1) (-1)) (g (d + 1) (-1))) = some (acH g (s + 1) 0 (d + 1) 0 40) := by
    rw [gd (s + 1) (by omega), gd (d + 1) (by omega), l1, m1, show miD 40 40 = 40 from rfl]
    unfold acp
    rw [gd (s + 1) (by omega), gd (d + 1) (by omega), l1, m1, if_pos (by decide)]
  rw [gd s (by omega), s2, gx 2 (by decide) (by decide), d2, a1]
  simp only [Option.bind_some]
  generalize hg2 : acH g (s + 1) 0 (d + 1) 0 40 = g2
  have gd2 : ∀ a, a ≠ d + 1 → g2 a = g a := fun a ha => by rw [← hg2, acH_off ha]
  have a2 : acp g2 (s + 2) 0 (d + 2) 0 (miD (g2 (s + 2) (-1)) (g2 (d + 2) (-1))) = some (acH g2 (s + 2) 0 (d + 2) 0 40) := by
    have x1 : g2 (s + 2) (-1) = 40 := by rw [gd2 _ (by omega), gd _ (by omega), l2]
    have x2 : g2 (d + 2) (-1) = 40 := by rw [gd2 _ (by omega), gd _ (by omega), m2]
    rw [x1, x2, show miD 40 40 = 40 from rfl]
    unfold acp
    rw [x1, x2, if_pos (by decide)]
  rw [gd2 s (by omega), gd s (by omega), s3, gd2 d (by omega), gx 3 (by decide) (by decide), d3, a2]
  simp only [Option.bind_some]
  generalize hg3 : acH g2 (s + 2) 0 (d + 2) 0 40 = g3
  have gd3 : ∀ a, a ≠ d + 2 → g3 a = g2 a := fun a ha => by rw [← hg3, acH_off ha]
  have a3 : acp g3 (s + 3) 0 (d + 3) 0 (miD (g3 (s + 3) (-1)) (g3 (d + 3) (-1))) = some (acH g3 (s + 3) 0 (d + 3) 0 160) := by
    have x1 : g3 (s + 3) (-1) = 160 := by rw [gd3 _ (by omega), gd2 _ (by omega), gd _ (by omega), l3]
    have x2 : g3 (d + 3) (-1) = 160 := by rw [gd3 _ (by omega), gd2 _ (by omega), gd _ (by omega), m3]
    rw [x1, x2, show miD 160 160 = 160 from rfl]
    unfold acp
    rw [x1, x2, if_pos (by decide)]
  rw [gd3 s (by omega), gd2 s (by omega), gd s (by omega), s4, gd3 d (by omega), gd2 d (by omega), gx 4 (by decide) (by decide), d4, a3]
  simp only [Option.bind_some]
  refine ⟨_, rfl, ⟨?_, ?_, fun j j0 j1 => ?_, fun j j0 j1 => ?_, fun j j0 j1 => ?_⟩, fun a b hab => ?_⟩
  · rw [acH_off (by omega), gd3 _ (by omega), gd2 _ (by omega), g0]
  · rw [acH_off (by omega), gd3 _ (by omega), gd2 _ (by omega), g1]
  · rw [acH_off (by omega), gd3 _ (by omega), ← hg2, acH_in j0 (by omega), gd _ (by omega)]
    congr 1
    omega
  · rw [acH_off (by omega), ← hg3, acH_in j0 (by omega), gd2 _ (by omega), gd _ (by omega)]
    congr 1
    omega
  · rw [acH_in j0 (by omega), gd3 _ (by omega), gd2 _ (by omega), gd _ (by omega)]
    congr 1
    omega
  · unfold rwC at hab
    simp at hab
    by_cases e3 : a = d + 3
    · subst e3
      rw [acH_out (by omega), gd3 _ (by omega), gd2 _ (by omega), gd _ (by omega)]
    · rw [acH_off e3]
      by_cases e2 : a = d + 2
      · subst e2
        rw [← hg3, acH_out (by omega), gd2 _ (by omega), gd _ (by omega)]
      · rw [gd3 _ e2]
        by_cases e1 : a = d + 1
        · subst e1
          rw [← hg2, acH_out (by omega), gd _ (by omega)]
        · rw [gd2 _ e1]
          by_cases e0 : a = d
          · subst e0
            exact gx b (by omega) (by omega)
          · exact congrFun (gd _ e0) b
theorem RowsR.cp {h h' : hH} {s d : Int} {al tb ce : Int → Int} (hR : RowsR h s al tb ce) (hc : RowsCp h h' s d) : RowsR h' d al tb ce := by
  obtain ⟨n0, n1, hd, hinc, hbit, hall⟩ := hR
  obtain ⟨c0, c1, c2, c3, c4⟩ := hc
  unfold RowsR
  rw [c0]
  refine ⟨n0, n1, fun i i0 i1 => ?_, fun i j i0 ij j1 => ?_, hbit, fun q q0 q1 hq => ?_⟩
  · obtain ⟨m0, m1, m2, m3, m4⟩ := hd i i0 i1
    rw [c2 i i0 (by omega), c3 i i0 (by omega)]
    exact ⟨m0, m1, m2, m3, fun c x y => by rw [c4 _ (by omega) (by omega)]; exact m4 c x y⟩
  · rw [c2 i i0 (by omega), c2 j (by omega) (by omega)]
    exact hinc i j i0 ij j1
  · obtain ⟨i, i0, i1, i2⟩ := hall q q0 q1 hq
    exact ⟨i, i0, i1, by rw [c2 i i0 (by omega)]; exact i2⟩
theorem RowsR.same {h h' : hH} {r : Int} {al tb ce : Int → Int} (hR : RowsR h r al tb ce) (e0 : h' r 0 = h r 0) (e1 : h' (r + 1) = h (r + 1)) (e2 : h' (r + 2) = h (r + 2)) (e3 : h' (r + 3) = h (r + 3)) : RowsR h' r al tb ce := by
  unfold RowsR at hR ⊢
  rw [e0, e1, e2, e3]
  exact hR
/-- the rows of al, tb, ce are sound -/
def ValOk (S : Int → Int) (al tb ce : Int → Int) : Prop := ∀ q, 0 ≤ q → q < 99 → al q = 1 → (0 ≤ tb q ∧ tb q < S 0) ∧ ∀ c, 0 ≤ c → c < 4 → (-1 ≤ ce (4 * q + c) ∧ ce (4 * q + c) ≤ 99) ∧ (S (4 + tb q) ≤ c → ce (4 * q + c) = -1)
/-- what is so of the sparse row S apart from the objects -/
def StOk (S : Int → Int) : Prop := (0 ≤ S 148 ∧ S 148 ≤ 99) ∧ (S 149 = 0 ∨ S 149 = 1) ∧ SVal S ∧ (∀ q, 0 ≤ q → q < 99 → S (150 + q) = 1 → q < S 148) ∧ (∀ q, 0 ≤ q → q < 99 → S (150 + q) = 0 ∨ S (150 + q) = 1) ∧ (liv S).length ≤ 40 ∧
  (S 149 = 1 → ValOk S (fun q => S (744 + q)) (fun q => S (249 + q)) (fun i => S (843 + i)) ∧ (∀ q, 0 ≤ q → q < 99 → S (744 + q) = 1 → q < S 148) ∧ (∀ q, 0 ≤ q → q < 99 → S (744 + q) = 0 ∨ S (744 + q) = 1) ∧ (alv (fun q => S (744 + q))).length ≤ 40)
def BegR (h : hH) (r : Int) (S : Int → Int) : Prop := RowsR h r (fun q => S (744 + q)) (fun q => S (249 + q)) (fun i => S (843 + i))
/-- the object State s holds what the sparse row S says -/
def StH (h : hH) (s : Int) (S : Int → Int) : Prop := RowsS h (s + 1) S ∧ h (s + 1) 1 = S 148 ∧ h s 2 = S 149 ∧ (S 149 = 1 → BegR h (s + 5) S)
theorem stC_split {s a b : Int} (h : stC s a b = false) : (¬ (a = s ∧ b = 2)) ∧ rwC (s + 1) a b = false ∧ rwC (s + 5) a b = false := by
  unfold stC at h
  simp only [Bool.or_eq_false_iff] at h
  refine ⟨fun z => ?_, h.1.2, h.2⟩
  have := h.1.1
  simp [z.1, z.2] at this
theorem copyState_ok {h : hH} {s d : Int} {S : Int → Int} (hs : StAt h s) (hd : StAt h d) (hn : d + 8 < s ∨ s + 8 < d) (hH : StH h s S) : ∃ h', fX8_copyFrom h d s = some h' ∧ StH h' d S ∧ Fr (stC d) h h' := by
  obtain ⟨s0, s1, sA, sB⟩ := hs
  obtain ⟨d0, d1, dA, dB⟩ := hd
  obtain ⟨r1, r2, r3, r4⟩ := hH
  unfold fX8_copyFrom
  rw [s0, d0]
  obtain ⟨g, g1, g2, g3⟩ := copyRows_ok sA dA (by omega)
  rw [g1]
  simp only [Option.bind_some]
  have f1 : ∀ a b, rwC (d + 1) a b = false → g a b = h a b := g3
  rw [f1 s 1 (rwC_far (by omega)), f1 d 1 (rwC_far (by omega)), s1, d1]
  have sB' : RowsAt g (s + 5) := sB.fr g3 ⟨rwC_far (by omega), rwC_far (by omega), rwC_far (by omega), rwC_far (by omega), rwC_far (by omega), rwC_far (by omega)⟩
  have dB' : RowsAt g (d + 5) := dB.fr g3 ⟨rwC_far (by omega), rwC_far (by omega), rwC_far (by omega), rwC_far (by omega), rwC_far (by omega), rwC_far (by omega)⟩
  obtain ⟨k, k1, k2, k3⟩ := copyRows_ok sB' dB' (by omega)
  rw [k1]
  simp only [Option.bind_some, pput]
  have f2 : ∀ a b, rwC (d + 5) a b = false → k a b = g a b := k3
  refine ⟨_, rfl, ⟨?_, ?_, ?_, fun z => ?_⟩, fun a b hab => ?_⟩
  · have := RowsR.cp r1 g2
    refine RowsR.same this ?_ ?_ ?_ ?_
    · rw [hup_off (by omega), f2 _ _ (rwC_far (by omega))]
    · rw [hup_off (by omega)]; exact Fr.row k3 _ (fun b => rwC_far (by omega))
    · rw [hup_off (by omega)]; exact Fr.row k3 _ (fun b => rwC_far (by omega))
    · rw [hup_off (by omega)]; exact Fr.row k3 _ (fun b => rwC_far (by omega))
  · rw [hup_off (by omega), f2 _ _ (rwC_far (by omega)), g2.2.1, r2]
  · rw [hup_at, f2 _ _ (rwC_far (by omega)), f1 _ _ (rwC_far (by omega)), r3]
  · have hb : BegR g (s + 5) S := RowsR.same (r4 z) (f1 _ _ (rwC_far (by omega))) (Fr.row g3 _ (fun b => rwC_far (by omega))) (Fr.row g3 _ (fun b => rwC_far (by omega))) (Fr.row g3 _ (fun b => rwC_far (by omega)))
    refine RowsR.same (RowsR.cp hb k2) ?_ ?_ ?_ ?_
    · rw [hup_off (by omega)]
    · rw [hup_off (by omega)]
    · rw [hup_off (by omega)]
    · rw [hup_off (by omega)]
  · obtain ⟨c1, c2, c3⟩ := stC_split hab
    rw [hup_ne c1, f2 _ _ c3, f1 _ _ c2]
theorem StAt.fr {h h' : hH} {s : Int} {C : Int → Int → Bool} (hA : StAt h s) (hf : Fr C h h') (c0 : C s 0 = false) (c1 : C s 1 = false) (hc : ∀ r, r = s + 1 ∨ r = s + 5 → C r 2 = false ∧ C r 3 = false ∧ C r 4 = false ∧ C (r + 1) (-1) = false ∧ C (r + 2) (-1) = false ∧ C (r + 3) (-1) = false) : StAt h' s :=
  ⟨(hf _ _ c0).trans hA.1, (hf _ _ c1).trans hA.2.1, hA.2.2.1.fr hf (hc _ (Or.inl rfl)), hA.2.2.2.fr hf (hc _ (Or.inr rfl))⟩
theorem StH.same {h h' : hH} {s : Int} {S : Int → Int} (hH : StH h s S) (e : ∀ k, 0 ≤ k → k < 9 → ∀ b, stC s (s + k) b = true → h' (s + k) b = h (s + k) b) (hl : StAt h s) (hl' : StAt h' s) : StH h' s S := by
  obtain ⟨r1, r2, r3, r4⟩ := hH
  have t : ∀ {k b}, (k = 1 ∨ k = 5) → (b = 0 ∨ b = 1) → h' (s + k) b = h (s + k) b := fun {k b} hk hb => e k (by omega) (by omega) b (by unfold stC rwC; simp; omega)
  have u : ∀ {k b}, ((2 ≤ k ∧ k ≤ 4) ∨ (6 ≤ k ∧ k ≤ 8)) → 0 ≤ b → h' (s + k) b = h (s + k) b := fun {k b} hk hb => e k (by omega) (by omega) b (by unfold stC rwC; simp; omega)
  have cp : ∀ r, r = s + 1 ∨ r = s + 5 → RowsCp h h' r r := by
    intro r hr
    refine ⟨?_, ?_, fun j j0 _ => ?_, fun j j0 _ => ?_, fun j j0 _ => ?_⟩
    · rcases hr with rfl | rfl
      · exact t (Or.inl rfl) (Or.inl rfl)
      · exact t (Or.inr rfl) (Or.inl rfl)
    · rcases hr with rfl | rfl
      · exact t (Or.inl rfl) (Or.inr rfl)
      · exact t (Or.inr rfl) (Or.inr rfl)
    · rcases hr with rfl | rfl
      · rw [Int.add_assoc]; exact u (by omega) j0
      · rw [Int.add_assoc]; exact u (by omega) j0
    · rcases hr with rfl | rfl
      · rw [Int.add_assoc]; exact u (by omega) j0
      · rw [Int.add_assoc]; exact u (by omega) j0
    · rcases hr with rfl | rfl
      · rw [Int.add_assoc]; exact u (by omega) j0
      · rw [Int.add_assoc]; exact u (by omega) j0
  refine ⟨RowsR.cp r1 (cp _ (Or.inl rfl)), (t (Or.inl rfl) (Or.inr rfl)).trans r2, ?_, fun z => RowsR.cp (r4 z) (cp _ (Or.inr rfl))⟩
  have := e 0 (by decide) (by decide) 2 (by unfold stC; simp)
  rw [Int.add_zero] at this
  exact this.trans r3
