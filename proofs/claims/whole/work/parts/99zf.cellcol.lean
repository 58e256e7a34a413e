/-! cell, col: WHAT THE CLASS ANSWERS (none: it throws), AND THE MODEL -/
def trn : Option Int → Int
  | none => 1
  | some _ => 0
def ans : Option Int → Int
  | none => 0
  | some v => v
noncomputable def cellC (h : hH) (q c : Int) : Option (Option Int) := (fX3_slotOf h 14 q).bind fun i => if i = -1 then some none else if c < 0 then some none else (fX3_tableAt h 14 i).bind fun t => (fX4_width h 4 t).bind fun w => if c < w then (fX3_value h 14 i c).map some else some none
theorem thr0 {h : hH} : fX12_throwsIf h 192 0 = some (0, hup h 192 0 0) := rfl
theorem thr1 {h : hH} : fX12_throwsIf h 192 1 = some (1, hup h 192 0 1) := rfl
theorem cell_ok {h : hH} (hL : Lay h) (h1 : SchI h) (h2 : StI h) (q c : Int) : ∃ o, cellC h q c = some o ∧ fX12_cell h 192 q c = some (ans o, hup h 192 0 (trn o)) := by
  have bad : fX12_cell_b27 h 192 q c 192 = some (0, hup h 192 0 1) := by
    unfold fX12_cell_b27 fX12_cell_b32
    rw [thr1]
    rfl
  rcases slot14 hL h2 q with ⟨q0, q1, ql, i, i0, i1, e, s⟩ | ⟨n, s⟩
  · have m := h2.1.1.2.2.1 i i0 i1
    have n1 : h 14 0 ≤ 40 := h2.1.1.2.1
    have ht : h (14 + 2) i = h 194 (249 + q) := by rw [← e]; exact m.2.2.2.1
    have sv := h2.2.2.2.1 q q0 q1 ql
    have mc : fX12_cell h 192 q c = if (0 : Int) ≤ c ∧ c < h 194 (4 + h 194 (249 + q)) then some (h 194 (348 + (4 * q + c)), hup h 192 0 0) else some (0, hup h 192 0 1) := by
      unfold fX12_cell
      rw [isRow_ok hL q, if_pos ⟨q0, q1, ql⟩]
      simp only [Option.bind_some]
      rw [if_neg (by decide), sg hL (249 + q) (w32_id (by omega) (by omega)) (by omega) (by omega)]
      simp only [Option.bind_some]
      rw [isCol_ok hL h1.2]
      simp only [Option.bind_some]
      rw [ifb]
      by_cases z : (0 : Int) ≤ c ∧ c < h 194 (4 + h 194 (249 + q))
      · have w4 := h1.2.2.2.2.2.1 _ sv.1.1 sv.1.2
        rw [if_pos ⟨sv.1, z⟩, if_pos z]
        unfold fX12_cell_b32
        rw [thr0]
        simp only [Option.bind_some]
        rw [if_pos trivial, cellOf_ok (hL.upF (by decide)) q0 q1 z.1 (by omega), hup_off (by decide)]
        rfl
      · rw [if_neg (fun y => z y.2), if_neg z]
        exact bad
    rw [mc]
    unfold cellC
    rw [s]
    simp only [Option.bind_some]
    rw [if_neg (by omega)]
    by_cases z : c < 0
    · rw [if_pos z, if_neg (by omega)]
      exact ⟨none, rfl, rfl⟩
    · rw [if_neg z, tableAt_in (rowsAt14 hL) n1 i0 i1, ht]
      simp only [Option.bind_some]
      rw [width_ok (schAt_4 hL) h1.1 h1.2, if_pos sv.1]
      simp only [Option.bind_some]
      by_cases y : c < h 194 (4 + h 194 (249 + q))
      · have w4 := h1.2.2.2.2.2.1 _ sv.1.1 sv.1.2
        rw [if_pos y, if_pos ⟨by omega, y⟩, value_in (rowsAt14 hL) i0 (by omega) (by omega) (by omega)]
        have := m.2.2.2.2 c (by omega) (by omega)
        refine ⟨some (h 194 (348 + (4 * q + c))), ?_, rfl⟩
        show some (some (h (14 + 3) (4 * i + c))) = _
        rw [show h (14 + 3) (4 * i + c) = h 194 (348 + (4 * q + c)) by rw [← e]; exact this]
      · rw [if_neg y, if_neg (fun x => y x.2)]
        exact ⟨none, rfl, rfl⟩
  · unfold cellC fX12_cell
    rw [s, isRow_ok hL q, if_neg n]
    simp only [Option.bind_some]
    rw [if_pos trivial, if_pos trivial]
    exact ⟨none, rfl, bad⟩
/-- those of the keys, the refs, that name a column -/
def wkS9 (A B : Int) (S : Int → Int) (t c : Int) (a k : Int) : Int := if S (A + k) = t then if S (B + k) = c then iorD a (ishD 1 k) else if S (B + 6 + k) = c then iorD a (ishD 1 k) else a else a
def wkF9 (A B : Int) (S : Int → Int) (t c n : Int) : Int := (rng 0 n).foldl (wkS9 A B S t c) 0
theorem ior64f : ∀ a : Fin 64, ∀ k : Fin 6, 0 ≤ iorD ((a.val : Nat) : Int) (ishD 1 ((k.val : Nat) : Int)) ∧ iorD ((a.val : Nat) : Int) (ishD 1 ((k.val : Nat) : Int)) < 64 ∧ iorD ((a.val : Nat) : Int) (ishD 1 ((k.val : Nat) : Int)) ≠ 0 := by decide +kernel
theorem ior64 {a k : Int} (a0 : 0 ≤ a) (a1 : a < 64) (k0 : 0 ≤ k) (k1 : k < 6) : 0 ≤ iorD a (ishD 1 k) ∧ iorD a (ishD 1 k) < 64 ∧ iorD a (ishD 1 k) ≠ 0 := by
  have := ior64f ⟨a.toNat, by omega⟩ ⟨k.toNat, by omega⟩
  rw [show ((a.toNat : Nat) : Int) = a by omega, show ((k.toNat : Nat) : Int) = k by omega] at this
  exact this
theorem wkS9_b {A B t c a k : Int} {S : Int → Int} (a0 : 0 ≤ a ∧ a < 64) (k0 : 0 ≤ k) (k1 : k < 6) : 0 ≤ wkS9 A B S t c a k ∧ wkS9 A B S t c a k < 64 := by
  have := ior64 a0.1 a0.2 k0 k1
  unfold wkS9
  split
  · split
    · exact ⟨this.1, this.2.1⟩
    · split
      · exact ⟨this.1, this.2.1⟩
      · exact a0
  · exact a0
section COLS
variable {h : hH} {p : Int} {S : Int → Int}
theorem keysWith_ok9 (hA : SchemaAt h p) (hR : SchR h p S) (hs : SOk S) (t c : Int) : fX4_keysWith h p t c = some (wkF9 40 46 S t c (S 1)) := by
  have b1 := hs.2.1
  refine (lpO_fold (f := fX4_keysWith_s5 h p t c) (fun i a => (a, i)) (S 1) (wkS9 40 46 S t c) (fun a => a) (fun a => 0 ≤ a ∧ a < 64) (fun i a i0 i1 ha => ⟨?_, wkS9_b ha i0 (by omega)⟩) (fun a _ => ?_) b1.1 ⟨by decide, by decide⟩).1
  · obtain ⟨e0, e1, e2⟩ := keyPart_ok hA hR hs i0 i1
    unfold fX4_keysWith_s5 fX4_keysWith_b47 wkS9
    dsimp only
    rw [hR.1.2.1, if_pos i1, e0, e1, e2, w1 (by omega) (by omega)]
    simp only [Option.bind_some]
    by_cases z1 : S (40 + i) = t
    · rw [if_pos z1, if_pos z1]
      by_cases z2 : S (46 + i) = c
      · rw [if_pos z2, if_pos z2]
      · rw [if_neg z2, if_neg z2, show (46 : Int) + 6 + i = 52 + i by omega]
        by_cases z3 : S (52 + i) = c
        · rw [if_pos z3, if_pos z3]
        · rw [if_neg z3, if_neg z3]
    · rw [if_neg z1, if_neg z1]
  · unfold fX4_keysWith_s5
    dsimp only
    rw [hR.1.2.1, if_neg (Int.lt_irrefl _)]
theorem refsWith_ok9 (hA : SchemaAt h p) (hR : SchR h p S) (hs : SOk S) (t c : Int) : fX4_refsWith h p t c = some (wkF9 58 64 S t c (S 2)) := by
  have b1 := hs.2.2.1
  refine (lpO_fold (f := fX4_refsWith_s5 h p t c) (fun i a => (a, i)) (S 2) (wkS9 58 64 S t c) (fun a => a) (fun a => 0 ≤ a ∧ a < 64) (fun i a i0 i1 ha => ⟨?_, wkS9_b ha i0 (by omega)⟩) (fun a _ => ?_) b1.1 ⟨by decide, by decide⟩).1
  · obtain ⟨e0, -, -, -, -, -, -, e1, e2⟩ := refPart_ok hA hR hs i0 i1
    unfold fX4_refsWith_s5 fX4_refsWith_b49 wkS9
    dsimp only
    rw [hR.1.2.2.1, if_pos i1, e0, e1, e2, w1 (by omega) (by omega)]
    simp only [Option.bind_some]
    by_cases z1 : S (58 + i) = t
    · rw [if_pos z1, if_pos z1]
      by_cases z2 : S (64 + i) = c
      · rw [if_pos z2, if_pos z2]
      · rw [if_neg z2, if_neg z2, show (64 : Int) + 6 + i = 70 + i by omega]
        by_cases z3 : S (70 + i) = c
        · rw [if_pos z3, if_pos z3]
        · rw [if_neg z3, if_neg z3]
    · rw [if_neg z1, if_neg z1]
  · unfold fX4_refsWith_s5
    dsimp only
    rw [hR.1.2.2.1, if_neg (Int.lt_irrefl _)]
/-- whether a column is needed -/
def ndS9 (S : Int → Int) (t c : Int) (f k : Int) : Int := if f = 0 then if S (40 + k) = t then if S (46 + k) = c then 1 else if S (52 + k) = c then 1 else 0 else 0 else 1
theorem ndws9 {t c : Int} : ∀ (l : List Int) (f a : Int), (∀ k ∈ l, 0 ≤ k ∧ k < 6) → 0 ≤ a ∧ a < 64 → (f = 0 ∨ f = 1) → (f = 0 ↔ a = 0) → (l.foldl (ndS9 S t c) f = 0 ∨ l.foldl (ndS9 S t c) f = 1) ∧ (l.foldl (ndS9 S t c) f = 0 ↔ l.foldl (wkS9 40 46 S t c) a = 0)
  | [], f, a, _, _, hf, hi => ⟨hf, hi⟩
  | k :: l, f, a, hl, ha, hf, hi => by
    have hk := hl k List.mem_cons_self
    have b := ior64 ha.1 ha.2 hk.1 hk.2
    refine ndws9 l (ndS9 S t c f k) (wkS9 40 46 S t c a k) (fun x hx => hl x (List.mem_cons_of_mem _ hx)) (wkS9_b ha hk.1 hk.2) ?_ ?_
    · unfold ndS9
      split
      · split
        · split
          · exact Or.inr rfl
          · split
            · exact Or.inr rfl
            · exact Or.inl rfl
        · exact Or.inl rfl
      · exact Or.inr rfl
    · unfold ndS9 wkS9
      rw [show (46 : Int) + 6 + k = 52 + k by omega]
      by_cases zf : f = 0
      · rw [if_pos zf]
        by_cases z1 : S (40 + k) = t
        · rw [if_pos z1, if_pos z1]
          by_cases z2 : S (46 + k) = c
          · rw [if_pos z2, if_pos z2]; omega
          · rw [if_neg z2, if_neg z2]
            by_cases z3 : S (52 + k) = c
            · rw [if_pos z3, if_pos z3]; omega
            · rw [if_neg z3, if_neg z3]; omega
        · rw [if_neg z1, if_neg z1]; omega
      · rw [if_neg zf]
        by_cases z1 : S (40 + k) = t
        · rw [if_pos z1]
          by_cases z2 : S (46 + k) = c
          · rw [if_pos z2]; omega
          · rw [if_neg z2]
            by_cases z3 : S (52 + k) = c
            · rw [if_pos z3]; omega
            · rw [if_neg z3]; omega
        · rw [if_neg z1]; omega
theorem nd19 {t c : Int} : ∀ l : List Int, l.foldl (ndS9 S t c) 1 = 1
  | [] => rfl
  | k :: l => by
    rw [List.foldl_cons, show ndS9 S t c 1 k = 1 from if_neg (by decide)]
    exact nd19 l
def ndV9 (S : Int → Int) (t c : Int) : Int := if S (24 + (4 * t + c)) = 1 then 1 else if wkF9 40 46 S t c (S 1) = 0 then 0 else 1
theorem needed_ok9 (hA : SchemaAt h p) (hR : SchR h p S) (hs : SOk S) {t c : Int} (t0 : 0 ≤ t) (t1 : t < 4) (c0 : 0 ≤ c) (c1 : c < 4) : fX4_needed h p t c = some (ndV9 S t c) := by
  have e := hR.2.2.2.1 (4 * t + c) (by omega) (by omega)
  obtain ⟨-, -, -, -, a8, -, -, -, -, -, -, -, b5, -⟩ := id hA
  unfold fX4_needed fX4_needTold fX4_needed_b18
  rw [a8, show w32 (w32 (t * 4) + c) = 4 * t + c by rw [w32_id (x := t * 4) (by omega) (by omega), w32_id (by omega) (by omega)]; omega, at_in (by omega) (by omega)]
  simp only [Option.bind_some]
  rw [e]
  unfold ndV9
  by_cases z : S (24 + (4 * t + c)) = 1
  · rw [if_pos z, if_pos z]
    rfl
  · rw [if_neg z, if_neg z]
    simp only [Option.bind_some]
    rw [if_pos trivial, keysWith_ok9 hA hR hs]
    simp only [Option.bind_some]
    by_cases y : wkF9 40 46 S t c (S 1) = 0
    · rw [if_pos y, if_pos y]
    · rw [if_neg y, if_neg y]
theorem isNeeded_ok9 (hL : Lay h) (hs : SOk (h 194)) {t c : Int} (t0 : 0 ≤ t) (t1 : t < 4) (c0 : 0 ≤ c) (c1 : c < 4) : fX12_isNeeded h 192 t c = some (ndV9 (h 194) t c) := by
  have b1 := hs.2.1
  have key : ∀ f : Int, fX12_isNeeded_b22 h 192 t c f = some ((rng 0 (h 194 1)).foldl (ndS9 (h 194) t c) f) := fun f => by
    refine (lpO_fold (f := fX12_isNeeded_s26 h 192 t c) (fun i a => (a, i)) (h 194 1) (ndS9 (h 194) t c) (fun a => a) (fun _ => True) (fun i a i0 i1 ha => ⟨?_, trivial⟩) (fun a _ => ?_) b1.1 trivial).1
    · unfold fX12_isNeeded_s26 fX12_isNeeded_b83 ndS9
      dsimp only
      rw [sg hL 1 rfl (by decide) (by decide)]
      simp only [Option.bind_some]
      rw [if_pos i1, sg hL (40 + i) (w32_id (by omega) (by omega)) (by omega) (by omega), sg hL (46 + i) (w32_id (by omega) (by omega)) (by omega) (by omega), sg hL (52 + i) (w32_id (by omega) (by omega)) (by omega) (by omega), w1 (by omega) (by omega)]
      simp only [Option.bind_some]
      by_cases zf : a = 0
      · rw [if_pos zf, if_pos zf]
        by_cases z1 : h 194 (40 + i) = t
        · rw [if_pos z1, if_pos z1]
          by_cases z2 : h 194 (46 + i) = c
          · rw [if_pos z2, if_pos z2]
          · rw [if_neg z2, if_neg z2]
            by_cases z3 : h 194 (52 + i) = c
            · rw [if_pos z3, if_pos z3]
            · rw [if_neg z3, if_neg z3]
        · rw [if_neg z1, if_neg z1]
      · rw [if_neg zf, if_neg zf]
    · unfold fX12_isNeeded_s26
      dsimp only
      rw [sg hL 1 rfl (by decide) (by decide)]
      simp only [Option.bind_some]
      rw [if_neg (Int.lt_irrefl _)]
  unfold fX12_isNeeded
  rw [sg hL (24 + (4 * t + c)) (by rw [w32_id (x := 4 * t) (by omega) (by omega), w32_id (x := 24 + 4 * t) (by omega) (by omega), w32_id (by omega) (by omega)]; omega) (by omega) (by omega)]
  simp only [Option.bind_some]
  unfold ndV9
  by_cases z : h 194 (24 + (4 * t + c)) = 1
  · rw [if_pos z, if_pos z, key, nd19]
  · rw [if_neg z, if_neg z, key]
    obtain ⟨d1, d2⟩ := ndws9 (S := h 194) (t := t) (c := c) (rng 0 (h 194 1)) 0 0 (fun k hk => by have := mem_rng.mp hk; omega) ⟨by decide, by decide⟩ (Or.inl rfl) ⟨fun _ => rfl, fun _ => rfl⟩
    congr 1
    unfold wkF9
    by_cases y : List.foldl (wkS9 40 46 (h 194) t c) 0 (rng 0 (h 194 1)) = 0
    · rw [if_pos y]; exact d2.mpr y
    · rw [if_neg y]
      rcases d1 with x | x
      · exact absurd (d2.mp x) y
      · exact x
end COLS
noncomputable def colC (h : hH) (t c what : Int) : Option (Option Int) := (fX4_has h 4 t c).bind fun b => if b = 0 then some none else if what < 0 then some none else if 3 < what then some none else if what = 0 then (fX4_defaultOf h 4 t c).map some else if what = 1 then (fX4_needed h 4 t c).map some else if what = 2 then (fX4_keysWith h 4 t c).map some else (fX4_refsWith h 4 t c).map some
def colV9 (S : Int → Int) (t c what : Int) : Int := if what = 0 then S (8 + (4 * t + c)) else if what = 1 then ndV9 S t c else if what = 2 then wkF9 40 46 S t c (S 1) else wkF9 58 64 S t c (S 2)
theorem colM_ok {h : hH} (hL : Lay h) (hs : SOk (h 194)) {t c : Int} (what : Int) (t0 : 0 ≤ t) (t1 : t < 4) (c0 : 0 ≤ c) (c1 : c < 4) : lpO (fX12_col_s41 h 192 t c what 0) (0, 0) = some (colV9 (h 194) t c what, h) := by
  have b1 := hs.2.1
  have b2 := hs.2.2.1
  have inner : ∀ a : Int, a = wkF9 40 46 (h 194) t c (h 194 1) → lpO (fX12_col_s116 h 192 t c what a) (0, 0) = some (colV9 (h 194) t c what, h) := fun a ha => by
    have q := (lpO_fold (f := fX12_col_s116 h 192 t c what a) (fun i b => (b, i)) (h 194 2) (wkS9 58 64 (h 194) t c) (fun b => ((if what = 0 then h 194 (8 + (4 * t + c)) else if what = 1 then ndV9 (h 194) t c else if what = 2 then a else b), h)) (fun a => 0 ≤ a ∧ a < 64) (fun i b i0 i1 hb => ⟨?_, wkS9_b hb i0 (by omega)⟩) (fun b _ => ?_) b2.1 ⟨Int.le_refl 0, by decide⟩).1
    · rw [q]
      unfold colV9
      rw [ha]
      rfl
    · unfold fX12_col_s116 fX12_col_b171 fX12_col_b178 fX12_col_b179 wkS9
      dsimp only
      rw [sg hL 2 rfl (by decide) (by decide)]
      simp only [Option.bind_some]
      rw [if_pos i1, sg hL (58 + i) (w32_id (by omega) (by omega)) (by omega) (by omega), sg hL (64 + i) (w32_id (by omega) (by omega)) (by omega) (by omega), sg hL (70 + i) (w32_id (by omega) (by omega)) (by omega) (by omega), w1 (by omega) (by omega), ior_0 hb.1 (by omega)]
      simp only [Option.bind_some]
      by_cases z1 : h 194 (58 + i) = t
      · rw [if_pos z1, if_pos z1]
        by_cases z2 : h 194 (64 + i) = c
        · rw [if_pos z2, if_pos z2]
        · rw [if_neg z2, if_neg z2, show (64 : Int) + 6 + i = 70 + i by omega]
          by_cases z3 : h 194 (70 + i) = c
          · rw [if_pos z3, if_pos z3]
          · rw [if_neg z3, if_neg z3]
      · rw [if_neg z1, if_neg z1]
    · unfold fX12_col_s116
      dsimp only
      rw [sg hL 2 rfl (by decide) (by decide)]
      simp only [Option.bind_some]
      rw [if_neg (Int.lt_irrefl _), sg hL (8 + (4 * t + c)) (by rw [w32_id (x := 4 * t) (by omega) (by omega), w32_id (x := 8 + 4 * t) (by omega) (by omega), w32_id (by omega) (by omega)]; omega) (by omega) (by omega), isNeeded_ok9 hL hs t0 t1 c0 c1]
      simp only [Option.bind_some]
      by_cases y0 : what = 0
      · rw [if_pos y0, if_pos y0]
      · rw [if_neg y0, if_neg y0]
        by_cases y1 : what = 1
        · rw [if_pos y1, if_pos y1]
          unfold ndV9
          by_cases x1 : h 194 (24 + (4 * t + c)) = 1
          · rw [if_pos x1]; rfl
          · rw [if_neg x1]
            by_cases x2 : wkF9 40 46 (h 194) t c (h 194 1) = 0
            · rw [if_pos x2]; rfl
            · rw [if_neg x2]; rfl
        · rw [if_neg y1, if_neg y1]
          by_cases y2 : what = 2
          · rw [if_pos y2, if_pos y2]
          · rw [if_neg y2, if_neg y2]
  have run : ∀ (d : Nat) (i a : Int), (h 194 1 - i).toNat = d → 0 ≤ i → i ≤ h 194 1 → (0 ≤ a ∧ a < 64) → (rng i (h 194 1)).foldl (wkS9 40 46 (h 194) t c) a = wkF9 40 46 (h 194) t c (h 194 1) → lpO (fX12_col_s41 h 192 t c what 0) (a, i) = some (colV9 (h 194) t c what, h) := by
    intro d
    induction d with
    | zero =>
      intro i a hd i0 i1 ha hf
      have : i = h 194 1 := by omega
      subst this
      rw [rng_nil (Int.le_refl _)] at hf
      refine lpO_inr ?_
      unfold fX12_col_s41
      dsimp only
      rw [sg hL 1 rfl (by decide) (by decide)]
      simp only [Option.bind_some]
      rw [if_neg (Int.lt_irrefl _), inner a hf]
      rfl
    | succ d ih =>
      intro i a hd i0 i1 ha hf
      rw [rng_cons (show i < h 194 1 by omega), List.foldl_cons] at hf
      rw [lpO_inl (q' := (wkS9 40 46 (h 194) t c a i, i + 1)) ?_]
      · exact ih (i + 1) _ (by omega) (by omega) (by omega) (wkS9_b ha i0 (by omega)) hf
      · unfold fX12_col_s41 fX12_col_b96 fX12_col_b103 fX12_col_b104 wkS9
        dsimp only
        rw [sg hL 1 rfl (by decide) (by decide)]
        simp only [Option.bind_some]
        rw [if_pos (show i < h 194 1 by omega), sg hL (40 + i) (w32_id (by omega) (by omega)) (by omega) (by omega), sg hL (46 + i) (w32_id (by omega) (by omega)) (by omega) (by omega), sg hL (52 + i) (w32_id (by omega) (by omega)) (by omega) (by omega), w1 (by omega) (by omega), ior_0 ha.1 (by omega)]
        simp only [Option.bind_some]
        by_cases z1 : h 194 (40 + i) = t
        · rw [if_pos z1, if_pos z1]
          by_cases z2 : h 194 (46 + i) = c
          · rw [if_pos z2, if_pos z2]
          · rw [if_neg z2, if_neg z2, show (46 : Int) + 6 + i = 52 + i by omega]
            by_cases z3 : h 194 (52 + i) = c
            · rw [if_pos z3, if_pos z3]
            · rw [if_neg z3, if_neg z3]
        · rw [if_neg z1, if_neg z1]
  exact run _ 0 0 rfl (Int.le_refl _) b1.1 ⟨by decide, by decide⟩ rfl
theorem col_ok {h : hH} (hL : Lay h) (h1 : SchI h) (t c what : Int) : ∃ o, colC h t c what = some o ∧ fX12_col h 192 t c what = some (ans o, hup h 192 0 (trn o)) := by
  have bad : fX12_col_b19 h 192 t c what 192 = some (0, hup h 192 0 1) := by
    unfold fX12_col_b19 fX12_col_b24
    rw [thr1]
    rfl
  unfold colC fX12_col
  rw [has_ok (schAt_4 hL) h1.1 h1.2, isCol_ok hL h1.2, isIn_ok]
  simp only [Option.bind_some]
  by_cases z : (0 ≤ t ∧ t < h 194 0) ∧ 0 ≤ c ∧ c < h 194 (4 + t)
  · rw [if_pos z, if_neg (show ¬ (1 : Int) = 0 by decide), if_neg (show ¬ (1 : Int) = 0 by decide)]
    have T4 := h1.2.1
    have w4 := h1.2.2.2.2.2.1 t z.1.1 z.1.2
    by_cases y : 0 ≤ what ∧ what ≤ 3
    · rw [if_neg (show ¬ what < 0 by omega), if_neg (show ¬ 3 < what by omega), if_pos y, if_neg (show ¬ (1 : Int) = 0 by decide)]
      refine ⟨some (colV9 (h 194) t c what), ?_, ?_⟩
      · have df : fX4_defaultOf h 4 t c = some (h 194 (8 + (4 * t + c))) := by
          obtain ⟨-, -, -, a7, -, -, -, -, -, -, -, b4, -⟩ := schAt_4 hL
          unfold fX4_defaultOf
          rw [has_ok (schAt_4 hL) h1.1 h1.2, if_pos z]
          simp only [Option.bind_some]
          rw [if_neg (by decide), a7, show w32 (w32 (t * 4) + c) = 4 * t + c by rw [w32_id (x := t * 4) (by omega) (by omega), w32_id (by omega) (by omega)]; omega, at_in (by omega) (by omega), h1.1.2.2.1 _ (by omega) (by omega)]
          rfl
        rw [df, needed_ok9 (schAt_4 hL) h1.1 h1.2 z.1.1 (by omega) z.2.1 (by omega), keysWith_ok9 (schAt_4 hL) h1.1 h1.2, refsWith_ok9 (schAt_4 hL) h1.1 h1.2]
        unfold colV9
        by_cases y0 : what = 0
        · rw [if_pos y0, if_pos y0]; rfl
        · rw [if_neg y0, if_neg y0]
          by_cases y1 : what = 1
          · rw [if_pos y1, if_pos y1]; rfl
          · rw [if_neg y1, if_neg y1]
            by_cases y2 : what = 2
            · rw [if_pos y2, if_pos y2]; rfl
            · rw [if_neg y2, if_neg y2]; rfl
      · unfold fX12_col_b24
        rw [thr0]
        simp only [Option.bind_some]
        rw [if_pos trivial, colM_ok (h := hup h 192 0 0) (hL.upF (by decide)) (by rw [hup_off (by decide)]; exact h1.2) what z.1.1 (by omega) z.2.1 (by omega), hup_off (by decide)]
        rfl
    · rw [if_neg y, if_pos rfl]
      refine ⟨none, ?_, bad⟩
      by_cases y0 : what < 0
      · rw [if_pos y0]
      · rw [if_neg y0, if_pos (show 3 < what by omega)]
  · rw [if_neg z, if_pos rfl, if_pos rfl]
    exact ⟨none, rfl, bad⟩
