/-! THE SCHEMA, AND WHAT IS READ OF IT AND OF ROWS -/
def SchemaAt (h : hH) (p : Int) : Prop := h p 4 = p + 1 ∧ h p 5 = p + 2 ∧ h p 6 = p + 3 ∧ h p 7 = p + 4 ∧ h p 8 = p + 5 ∧ h p 9 = p + 6 ∧ h p 10 = p + 7 ∧ h p 11 = p + 8 ∧
  h (p + 1) (-1) = 4 ∧ h (p + 2) (-1) = 4 ∧ h (p + 3) (-1) = 16 ∧ h (p + 4) (-1) = 16 ∧ h (p + 5) (-1) = 16 ∧ h (p + 6) (-1) = 18 ∧ h (p + 7) (-1) = 54 ∧ h (p + 8) (-1) = 36
/-- a sound schema, in the places of the row s -/
def SOk (s : Int → Int) : Prop := (0 ≤ s 0 ∧ s 0 ≤ 4) ∧ (0 ≤ s 1 ∧ s 1 ≤ 6) ∧ (0 ≤ s 2 ∧ s 2 ≤ 6) ∧ (0 ≤ s 3 ∧ s 3 ≤ 6) ∧
  (∀ t, 0 ≤ t → t < s 0 → 1 ≤ s (4 + t) ∧ s (4 + t) ≤ 4) ∧
  (∀ i, 0 ≤ i → i < 16 → -1 ≤ s (8 + i) ∧ s (8 + i) ≤ 99) ∧ (∀ i, 0 ≤ i → i < 16 → s (24 + i) = 0 ∨ s (24 + i) = 1) ∧
  (∀ k, 0 ≤ k → k < s 1 → (0 ≤ s (40 + k) ∧ s (40 + k) < s 0) ∧ (0 ≤ s (46 + k) ∧ s (46 + k) < s (4 + s (40 + k))) ∧ (-1 ≤ s (52 + k) ∧ s (52 + k) < s (4 + s (40 + k)))) ∧
  (∀ f, 0 ≤ f → f < s 2 → (0 ≤ s (58 + f) ∧ s (58 + f) < s 0) ∧ (0 ≤ s (64 + f) ∧ s (64 + f) < s (4 + s (58 + f))) ∧ (-1 ≤ s (70 + f) ∧ s (70 + f) < s (4 + s (58 + f))) ∧ (0 ≤ s (76 + f) ∧ s (76 + f) < s 0) ∧ (0 ≤ s (82 + f) ∧ s (82 + f) < s 1) ∧ s (40 + s (82 + f)) = s (76 + f) ∧ (s (52 + s (82 + f)) = -1 ↔ s (70 + f) = -1) ∧ (0 ≤ s (88 + f) ∧ s (88 + f) ≤ 3) ∧ (0 ≤ s (94 + f) ∧ s (94 + f) ≤ 3) ∧ (s (100 + f) = 0 ∨ s (100 + f) = 1) ∧ (s (106 + f) = 0 ∨ s (106 + f) = 1)) ∧
  (∀ c, 0 ≤ c → c < s 3 → (0 ≤ s (112 + c) ∧ s (112 + c) < s 0) ∧ (0 ≤ s (118 + c) ∧ s (118 + c) < s (4 + s (112 + c))) ∧ (s (124 + c) = 60 ∨ s (124 + c) = 61 ∨ s (124 + c) = 62) ∧ (-1 ≤ s (136 + c) ∧ s (136 + c) < s (4 + s (112 + c))) ∧ (s (136 + c) = -1 → 0 ≤ s (130 + c) ∧ s (130 + c) ≤ 99) ∧ (s (142 + c) = 0 ∨ s (142 + c) = 1))
/-- the object p holds the schema of the row s -/
def SchR (h : hH) (p : Int) (s : Int → Int) : Prop := (h p 0 = s 0 ∧ h p 1 = s 1 ∧ h p 2 = s 2 ∧ h p 3 = s 3) ∧
  (∀ t, 0 ≤ t → t < s 0 → h (p + 2) t = s (4 + t)) ∧ (∀ i, 0 ≤ i → i < 16 → h (p + 4) i = s (8 + i)) ∧ (∀ i, 0 ≤ i → i < 16 → h (p + 5) i = s (24 + i)) ∧
  (∀ k, 0 ≤ k → k < s 1 → h (p + 6) (k * 3) = s (40 + k) ∧ h (p + 6) (k * 3 + 1) = s (46 + k) ∧ h (p + 6) (k * 3 + 2) = s (52 + k)) ∧
  (∀ f, 0 ≤ f → f < s 2 → h (p + 7) (f * 9) = s (58 + f) ∧ h (p + 7) (f * 9 + 1) = s (76 + f) ∧ h (p + 7) (f * 9 + 2) = s (82 + f) ∧ h (p + 7) (f * 9 + 3) = s (88 + f) ∧ h (p + 7) (f * 9 + 4) = s (94 + f) ∧ h (p + 7) (f * 9 + 5) = s (100 + f) ∧ h (p + 7) (f * 9 + 6) = s (106 + f) ∧ h (p + 7) (f * 9 + 7) = s (64 + f) ∧ h (p + 7) (f * 9 + 8) = s (70 + f)) ∧
  (∀ c, 0 ≤ c → c < s 3 → h (p + 8) (c * 6) = s (112 + c) ∧ h (p + 8) (c * 6 + 1) = s (118 + c) ∧ h (p + 8) (c * 6 + 2) = s (124 + c) ∧ h (p + 8) (c * 6 + 3) = s (136 + c) ∧ (s (136 + c) = -1 → h (p + 8) (c * 6 + 4) = s (130 + c)) ∧ h (p + 8) (c * 6 + 5) = s (142 + c))
/-- the model's own row is read -/
theorem sg {h : hH} (hL : Lay h) {x : Int} (i : Int) (e : x = i) (i0 : 0 ≤ i) (i1 : i < 1420) : aget h (h 192 6) x = some (h 194 i) := by
  rw [e, ly_192_6 hL]
  exact aget_in i0 (by rw [ll_194 hL]; exact i1)
section MODEL
variable {h : hH}
theorem isIn_ok {a b c : Int} : fX12_isIn h a b c = some (if b ≤ a ∧ a ≤ c then 1 else 0) := by
  unfold fX12_isIn
  by_cases h1 : a < b
  · rw [if_pos h1, if_neg (by omega)]
  · rw [if_neg h1]
    by_cases h2 : c < a
    · rw [if_pos h2, if_neg (by omega)]
    · rw [if_neg h2, if_pos (by omega)]
theorem cellOf_ok (hL : Lay h) {q c : Int} (q0 : 0 ≤ q) (q1 : q < 99) (c0 : 0 ≤ c) (c1 : c < 4) : fX12_cellOf h 192 q c = some (h 194 (348 + (4 * q + c))) := by
  unfold fX12_cellOf
  rw [sg hL (348 + (4 * q + c)) (by rw [w32_id (x := 4 * q) (by omega) (by omega), w32_id (x := 348 + 4 * q) (by omega) (by omega), w32_id (by omega) (by omega)]; omega) (by omega) (by omega)]
  rfl
theorem isRowOf_ok (hL : Lay h) {q t : Int} (q0 : 0 ≤ q) (q1 : q < 99) : fX12_isRowOf h 192 q t = some (if h 194 (150 + q) = 1 ∧ h 194 (249 + q) = t then 1 else 0) := by
  unfold fX12_isRowOf
  rw [sg hL (150 + q) (w32_id (by omega) (by omega)) (by omega) (by omega)]
  simp only [Option.bind_some]
  by_cases h1 : h 194 (150 + q) = 1
  · rw [if_pos h1, sg hL (249 + q) (w32_id (by omega) (by omega)) (by omega) (by omega)]
    simp only [Option.bind_some]
    by_cases h2 : h 194 (249 + q) = t
    · rw [if_pos h2, if_pos ⟨h1, h2⟩]
    · rw [if_neg h2, if_neg (fun z => h2 z.2)]
  · rw [if_neg h1, if_neg (fun z => h1 z.1)]
theorem isRow_ok (hL : Lay h) (q : Int) : fX12_isRow h 192 q = some (if 0 ≤ q ∧ q < 99 ∧ h 194 (150 + q) = 1 then 1 else 0) := by
  unfold fX12_isRow
  rw [isIn_ok]
  simp only [Option.bind_some]
  by_cases h1 : 0 ≤ q ∧ q ≤ 98
  · rw [if_pos h1, if_neg (by decide), sg hL (150 + q) (w32_id (by omega) (by omega)) (by omega) (by omega)]
    simp only [Option.bind_some]
    by_cases h2 : h 194 (150 + q) = 1
    · rw [if_pos h2, if_pos (by omega)]
    · rw [if_neg h2, if_neg (by omega)]
  · rw [if_neg h1, if_pos rfl, if_neg (by omega)]
theorem isTable_ok (hL : Lay h) (hs : SOk (h 194)) (t : Int) : fX12_isTable h 192 t = some (if 0 ≤ t ∧ t < h 194 0 then 1 else 0) := by
  unfold fX12_isTable
  have h0 := hs.1
  rw [sg hL 0 rfl (by omega) (by omega)]
  simp only [Option.bind_some]
  rw [w32_id (by omega) (by omega), isIn_ok]
  simp only [Option.bind_some]
  congr 1
  by_cases z : 0 ≤ t ∧ t < h 194 0
  · rw [if_pos z, if_pos (by omega)]
  · rw [if_neg z, if_neg (by omega)]
theorem isCol_ok (hL : Lay h) (hs : SOk (h 194)) (t c : Int) : fX12_isCol h 192 t c = some (if (0 ≤ t ∧ t < h 194 0) ∧ 0 ≤ c ∧ c < h 194 (4 + t) then 1 else 0) := by
  unfold fX12_isCol
  rw [isTable_ok hL hs]
  simp only [Option.bind_some]
  by_cases z : 0 ≤ t ∧ t < h 194 0
  · have h0 := hs.1
    have h1 := hs.2.2.2.2.1 t z.1 z.2
    rw [if_pos z, if_neg (by decide), sg hL (4 + t) (w32_id (by omega) (by omega)) (by omega) (by omega)]
    simp only [Option.bind_some]
    rw [w32_id (by omega) (by omega), isIn_ok]
    simp only [Option.bind_some]
    by_cases y : 0 ≤ c ∧ c < h 194 (4 + t)
    · rw [show (if 0 ≤ c ∧ c ≤ h 194 (4 + t) - 1 then (1 : Int) else 0) = 1 from if_pos (by omega), if_neg (by decide), if_pos ⟨z, y⟩]
    · rw [show (if 0 ≤ c ∧ c ≤ h 194 (4 + t) - 1 then (1 : Int) else 0) = 0 from if_neg (by omega), if_pos rfl, if_neg (fun x => y x.2)]
  · rw [if_neg z, if_pos rfl, if_neg (fun x => z x.1)]
/-- a row q has these values where the key k looks -/
def kyS (S : Int → Int) (q k v w : Int) : Prop := S (348 + (4 * q + S (46 + k))) = v ∧ (S (52 + k) < 0 ∨ S (348 + (4 * q + S (52 + k))) = w)
theorem hasKey_ok (hL : Lay h) (hs : SOk (h 194)) {q k v w : Int} (q0 : 0 ≤ q) (q1 : q < 99) (k0 : 0 ≤ k) (k1 : k < h 194 1) : fX12_hasKey h 192 q k v w = some (@ite _ (kyS (h 194) q k v w) (Classical.propDecidable _) 1 0) := by
  have h1 := hs.2.1
  have hk := hs.2.2.2.2.2.2.2.1 k k0 k1
  have ht := hs.2.2.2.2.1 _ hk.1.1 hk.1.2
  unfold fX12_hasKey
  rw [sg hL (46 + k) (w32_id (by omega) (by omega)) (by omega) (by omega)]
  simp only [Option.bind_some]
  rw [cellOf_ok hL q0 q1 (by omega) (by omega)]
  simp only [Option.bind_some]
  by_cases a : h 194 (348 + (4 * q + h 194 (46 + k))) = v
  · rw [if_pos a, sg hL (52 + k) (w32_id (by omega) (by omega)) (by omega) (by omega)]
    simp only [Option.bind_some]
    by_cases b : h 194 (52 + k) < 0
    · rw [if_pos b, if_pos ⟨a, Or.inl b⟩]
      rfl
    · rw [if_neg b]
      rw [cellOf_ok hL q0 q1 (by omega) (by omega)]
      simp only [Option.bind_some]
      by_cases c : h 194 (348 + (4 * q + h 194 (52 + k))) = w
      · rw [if_pos c, if_pos ⟨a, Or.inr c⟩]
        rfl
      · rw [if_neg c, if_neg (fun z => z.2.elim b c)]
  · rw [if_neg a, if_neg (fun z => a z.1)]
/-- to which row one refers: by its number -/
noncomputable def tgS (S : Int → Int) (q f : Int) : Int :=
  if S (348 + (4 * q + S (64 + f))) < 0 ∨ (0 ≤ S (70 + f) ∧ S (348 + (4 * q + S (70 + f))) < 0) then -1 else
    lrun (fun j (_ : Unit) => @ite _ (S (150 + j) = 1 ∧ S (249 + j) = S (76 + f) ∧ kyS S j (S (82 + f)) (S (348 + (4 * q + S (64 + f)))) (if S (70 + f) < 0 then 0 else S (348 + (4 * q + S (70 + f))))) (Classical.propDecidable _) (.inr j) (.inl ())) (fun _ => -1) (rng 0 99) ()
theorem target_ok (hL : Lay h) (hs : SOk (h 194)) {q f : Int} (q0 : 0 ≤ q) (q1 : q < 99) (f0 : 0 ≤ f) (f1 : f < h 194 2) : fX12_target h 192 q f = some (tgS (h 194) q f) := by
  have h2 := hs.2.2.1
  have hf := hs.2.2.2.2.2.2.2.2.1 f f0 f1
  have ht := hs.2.2.2.2.1 _ hf.1.1 hf.1.2
  have main : ∀ v w : Int, lpO (fX12_target_s61 h 192 f v w) 0 = some (lrun (fun j (_ : Unit) => @ite _ (h 194 (150 + j) = 1 ∧ h 194 (249 + j) = h 194 (76 + f) ∧ kyS (h 194) j (h 194 (82 + f)) v w) (Classical.propDecidable _) (.inr j) (.inl ())) (fun _ => -1) (rng 0 99) ()) := by
    intro v w
    refine lpO_lrun (f := fX12_target_s61 h 192 f v w) (fun i (_ : Unit) => i) 99 _ _ (fun _ _ => True) (fun i _ i0 i1 _ => ?_) (fun _ _ => ?_) (Int.le_refl _) (by decide) trivial
    · unfold fX12_target_s61
      rw [if_pos i1, sg hL (150 + i) (w32_id (by omega) (by omega)) (by omega) (by omega)]
      simp only [Option.bind_some]
      by_cases a : h 194 (150 + i) = 1
      · rw [if_pos a, sg hL (249 + i) (w32_id (by omega) (by omega)) (by omega) (by omega), sg hL (76 + f) (w32_id (by omega) (by omega)) (by omega) (by omega)]
        simp only [Option.bind_some]
        by_cases b : h 194 (249 + i) = h 194 (76 + f)
        · rw [if_pos b, sg hL (82 + f) (w32_id (by omega) (by omega)) (by omega) (by omega)]
          simp only [Option.bind_some]
          rw [hasKey_ok hL hs i0 i1 hf.2.2.2.2.1.1 hf.2.2.2.2.1.2]
          simp only [Option.bind_some]
          by_cases c : kyS (h 194) i (h 194 (82 + f)) v w
          · rw [if_pos c, if_neg (show ¬ (1 : Int) = 0 by decide), if_pos ⟨a, b, c⟩]
          · rw [if_neg c, if_pos rfl, if_neg (fun z => c z.2.2), w1 (by omega) (by omega)]
            exact ⟨rfl, trivial⟩
        · rw [if_neg b, if_neg (fun z => b z.2.1), w1 (by omega) (by omega)]
          exact ⟨rfl, trivial⟩
      · rw [if_neg a, if_neg (fun z => a z.1), w1 (by omega) (by omega)]
        exact ⟨rfl, trivial⟩
    · rfl
  unfold fX12_target
  rw [sg hL (64 + f) (w32_id (by omega) (by omega)) (by omega) (by omega)]
  simp only [Option.bind_some]
  rw [cellOf_ok hL q0 q1 (by omega) (by omega)]
  simp only [Option.bind_some]
  rw [sg hL (70 + f) (w32_id (by omega) (by omega)) (by omega) (by omega)]
  simp only [Option.bind_some]
  unfold tgS
  by_cases a : h 194 (70 + f) < 0
  · rw [if_pos a]
    unfold fX12_target_b45
    by_cases b : h 194 (348 + (4 * q + h 194 (64 + f))) < 0
    · rw [if_pos b, if_pos (Or.inl b)]
    · rw [if_neg b, if_neg (by decide), main, if_neg (by omega)]
      rw [if_pos a]
  · rw [if_neg a]
    rw [cellOf_ok hL q0 q1 (by omega) (by omega)]
    simp only [Option.bind_some]
    unfold fX12_target_b45
    by_cases b : h 194 (348 + (4 * q + h 194 (64 + f))) < 0
    · rw [if_pos b, if_pos (Or.inl b)]
    · rw [if_neg b]
      by_cases c : h 194 (348 + (4 * q + h 194 (70 + f))) < 0
      · rw [if_pos c, if_pos (Or.inr ⟨by omega, c⟩)]
      · rw [if_neg c, main, if_neg (by omega)]
        rw [if_neg a]
end MODEL
