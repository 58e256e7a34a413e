/-! VIOLATIONS: the whole list, in both -/
theorem flat_loop {ρ α : Type} {f : hH × Int → Option ((hH × Int) ⊕ ρ)} {K : hH → List α → Prop} {h : hH} {L : List α} (n : Int) (G : Int → List α) (Q : ρ → Prop) (hn : 0 ≤ n) (hK : K h L) (hs : ∀ i h, 0 ≤ i → i < n → K h (L ++ (rng 0 i).flatMap G) → ∃ h', f (h, i) = some (.inl (h', i + 1)) ∧ K h' ((L ++ (rng 0 i).flatMap G) ++ G i)) (he : ∀ h, K h (L ++ (rng 0 n).flatMap G) → ∃ r, f (h, n) = some (.inr r) ∧ Q r) : ∃ r, lpO f (h, 0) = some r ∧ Q r := by
  refine lpO_inv n (fun i h' => K h' (L ++ (rng 0 i).flatMap G)) Q (fun i h' i0 i1 hI => ?_) (fun h' hI => he h' hI) (Int.le_refl _) hn (by rw [rng_nil (Int.le_refl _)]; simpa using hK)
  obtain ⟨h'', a, b⟩ := hs i h' i0 i1 hI
  exact ⟨h'', a, by rw [flat_snoc _ i0, ← List.append_assoc]; exact b⟩
noncomputable def needC (S : Int → Int) (t c : Int) : List (Int × Int × Int) := @ite _ (nedS S t c) (Classical.propDecidable _) (pickL S 1 c (fun q => S (249 + q) = t ∧ S (348 + (4 * q + c)) < 0)) []
noncomputable def needT (S : Int → Int) (t : Int) : List (Int × Int × Int) := (rng 0 (S (4 + t))).flatMap (needC S t)
noncomputable def needsL (S : Int → Int) : List (Int × Int × Int) := (rng 0 (S 0)).flatMap (needT S)
noncomputable def keyL1 (S : Int → Int) (k : Int) : List (Int × Int × Int) := pickL S 2 k (fun q => S (249 + q) = S (40 + k) ∧ dblS S k q)
noncomputable def refL1 (S : Int → Int) (late f : Int) : List (Int × Int × Int) := if late = 0 ∧ S (106 + f) = 1 then [] else pickL S 3 f (fun q => S (249 + q) = S (58 + f) ∧ badR S f q)
noncomputable def chkL1 (S : Int → Int) (late k : Int) : List (Int × Int × Int) := if late = 0 ∧ S (142 + k) = 1 then [] else pickL S 4 k (fun q => S (249 + q) = S (112 + k) ∧ badC S k q)
noncomputable def vioL (S : Int → Int) (late : Int) : List (Int × Int × Int) := needsL S ++ (rng 0 (S 1)).flatMap (keyL1 S) ++ (rng 0 (S 2)).flatMap (refL1 S late) ++ (rng 0 (S 3)).flatMap (chkL1 S late)
theorem liv_len {h : hH} {r : Int} {S : Int → Int} (hR : RowsS h r S) : (liv S).length ≤ 40 := by
  unfold liv
  rw [alv_eq hR, List.length_map, rng_len]
  have := hR.1
  have := hR.2.1
  omega
theorem pickL_len {S : Int → Int} {k n : Int} {P : Int → Prop} : (pickL S k n P).length ≤ (liv S).length := by
  unfold pickL
  rw [List.length_map]
  exact List.length_filter_le _ _
theorem refL1_len {S : Int → Int} {late f : Int} : (refL1 S late f).length ≤ (liv S).length := by
  unfold refL1
  split
  · exact Nat.zero_le _
  · exact pickL_len
theorem chkL1_len {S : Int → Int} {late f : Int} : (chkL1 S late f).length ≤ (liv S).length := by
  unfold chkL1
  split
  · exact Nat.zero_le _
  · exact pickL_len
def cnt (S : Int → Int) (t : Int) : Nat := ((liv S).filter (fun q => S (249 + q) == t)).length
def csum (S : Int → Int) (t : Int) : Nat := ((liv S).filter (fun q => decide (0 ≤ S (249 + q) ∧ S (249 + q) < t))).length
theorem csum_le {S : Int → Int} {t : Int} : csum S t ≤ (liv S).length := List.length_filter_le _ _
theorem csum_s {S : Int → Int} {t : Int} (t0 : 0 ≤ t) : csum S (t + 1) = csum S t + cnt S t := by
  unfold csum cnt
  generalize liv S = l
  induction l with
  | nil => rfl
  | cons q l ih =>
    rw [List.filter_cons, List.filter_cons, List.filter_cons]
    by_cases a : S (249 + q) = t
    · rw [if_pos (by simp; omega), if_neg (by simp; omega), if_pos (by simp; omega), List.length_cons, List.length_cons, ih]
      omega
    · by_cases b : 0 ≤ S (249 + q) ∧ S (249 + q) < t
      · rw [if_pos (by simp; omega), if_pos (by simp; omega), if_neg (by simp; omega), List.length_cons, List.length_cons, ih]
        omega
      · rw [if_neg (by simp; omega), if_neg (by simp; omega), if_neg (by simp; omega), ih]
theorem needC_len {S : Int → Int} {t c : Int} : (needC S t c).length ≤ cnt S t := by
  unfold needC
  by_cases z : nedS S t c
  · rw [if_pos z]
    unfold pickL cnt
    rw [List.length_map]
    generalize liv S = l
    induction l with
    | nil => exact Nat.le_refl _
    | cons q l ih =>
      rw [List.filter_cons, List.filter_cons]
      by_cases a : S (249 + q) = t
      · rw [if_pos (show (S (249 + q) == t) = true by simpa using a), List.length_cons]
        split
        · rw [List.length_cons]; omega
        · omega
      · rw [if_neg (show ¬ (S (249 + q) == t) = true by simpa using a), if_neg (by simp; intro z; exact absurd z a)]
        exact ih
  · rw [if_neg z]; exact Nat.zero_le _
theorem needT_len {S : Int → Int} {t c : Int} (c1 : c ≤ 4) : ((rng 0 c).flatMap (needC S t)).length ≤ 4 * cnt S t := by
  have := flat_len (k := cnt S t) (l := rng 0 c) (G := needC S t) (fun _ _ => needC_len)
  rw [rng_len] at this
  have h2 : (c - 0).toNat ≤ 4 := by omega
  have h3 : cnt S t * (c - 0).toNat ≤ cnt S t * 4 := Nat.mul_le_mul_left _ h2
  omega
theorem needs_len {S : Int → Int} (hs : SOk S) : ∀ (d : Nat), (d : Int) ≤ S 0 → ((rng 0 d).flatMap (needT S)).length ≤ 4 * csum S d
  | 0, _ => by rw [rng_nil (by decide)]; exact Nat.zero_le _
  | d + 1, hd => by
    have h1 := needs_len hs d (by omega)
    have e : ((d + 1 : Nat) : Int) = (d : Int) + 1 := rfl
    rw [e, flat_snoc _ (by omega), List.length_append, csum_s (by omega)]
    have h2 : (needT S d).length ≤ 4 * cnt S d := needT_len (hs.2.2.2.2.1 d (by omega) (by omega)).2
    omega
theorem ph_len {S : Int → Int} {G : Int → List (Int × Int × Int)} (hG : ∀ i, (G i).length ≤ (liv S).length) (hl : (liv S).length ≤ 40) {n : Int} (n0 : 0 ≤ n) : (((rng 0 n).flatMap G).length : Int) ≤ 40 * n := by
  have := flat_len (k := 40) (l := rng 0 n) (G := G) (fun j _ => Nat.le_trans (hG j) hl)
  rw [rng_len] at this
  omega
/-- one bit a place -/
noncomputable def bitF (P : Int → Prop) (n : Int) : Int := (rng 0 n).foldl (fun b k => @ite _ (P k) (Classical.propDecidable _) (iorD b (ishD 1 k)) b) 0
theorem bit_add : ∀ k : Fin 8, ∀ b : Fin 128, b.1 < 2 ^ k.1 → iorD (b.1 : Int) (ishD 1 (k.1 : Int)) = (b.1 : Int) + 2 ^ k.1 := by decide +kernel
theorem bitF_s {P : Int → Prop} {n : Int} (n0 : 0 ≤ n) : bitF P (n + 1) = @ite _ (P n) (Classical.propDecidable _) (iorD (bitF P n) (ishD 1 n)) (bitF P n) := by
  unfold bitF
  rw [rng_snoc n0, List.foldl_append]
  rfl
theorem bitF_b {P : Int → Prop} : ∀ (d : Nat), d ≤ 8 → (0 ≤ bitF P d ∧ bitF P d < 2 ^ d) ∧ (bitF P d = 0 ↔ ∀ k, 0 ≤ k → k < (d : Int) → ¬ P k)
  | 0, _ => ⟨⟨Int.le_refl _, (show (0 : Int) < 1 by decide)⟩, fun _ k k0 k1 => by omega, fun _ => rfl⟩
  | d + 1, hd => by
    obtain ⟨⟨b0, b1⟩, b2⟩ := bitF_b (P := P) d (by omega)
    have e : ((d + 1 : Nat) : Int) = (d : Int) + 1 := rfl
    rw [e, bitF_s (by omega)]
    have p2 : (2 : Int) ^ (d + 1) = 2 * 2 ^ d := by rw [Int.pow_succ]; omega
    have p0 : (0 : Int) < 2 ^ d := by
      have : (0 : Int) < ((2 ^ d : Nat) : Int) := by
        have := Nat.two_pow_pos d
        omega
      simpa using this
    by_cases z : P d
    · rw [if_pos z]
      obtain ⟨x, hx⟩ : ∃ x : Nat, bitF P d = x := ⟨(bitF P d).toNat, by omega⟩
      have hx2 : x < 2 ^ d := by
        have : (x : Int) < ((2 ^ d : Nat) : Int) := by rw [← hx]; simpa using b1
        omega
      have hx3 : x < 128 := Nat.lt_of_lt_of_le hx2 (Nat.pow_le_pow_right (by decide) (show d ≤ 7 by omega))
      have := bit_add ⟨d, by omega⟩ ⟨x, hx3⟩ hx2
      dsimp only at this
      rw [hx, this]
      refine ⟨⟨by omega, by omega⟩, fun y => by omega, fun y => absurd z (y d (by omega) (by omega))⟩
    · rw [if_neg z]
      refine ⟨⟨b0, by omega⟩, b2.trans ⟨fun y k k0 k1 => ?_, fun y k k0 k1 => y k k0 (by omega)⟩⟩
      by_cases e : k = d
      · rw [e]; exact z
      · exact y k k0 (by omega)
theorem bit_loop {f : Int × Int → Option ((Int × Int) ⊕ Int)} (n : Int) (P : Int → Prop) (hs : ∀ i b, 0 ≤ i → i < n → (P i → f (b, i) = some (.inl (iorD b (ishD 1 i), i + 1))) ∧ (¬ P i → f (b, i) = some (.inl (b, i + 1)))) (he : ∀ b, f (b, n) = some (.inr b)) (hn : 0 ≤ n) : lpO f (0, 0) = some (bitF P n) := by
  have key : ∀ (d : Nat) (i : Int), (n - i).toNat = d → 0 ≤ i → i ≤ n → lpO f (bitF P i, i) = some (bitF P n) := by
    intro d
    induction d with
    | zero =>
      intro i hd i0 i1
      have : i = n := by omega
      subst this
      exact lpO_inr (he _)
    | succ d ih =>
      intro i hd i0 i1
      have := ih (i + 1) (by omega) (by omega) (by omega)
      rw [bitF_s i0] at this
      by_cases z : P i
      · rw [if_pos z] at this
        rw [lpO_inl ((hs i _ i0 (by omega)).1 z)]
        exact this
      · rw [if_neg z] at this
        rw [lpO_inl ((hs i _ i0 (by omega)).2 z)]
        exact this
  exact key _ 0 rfl (Int.le_refl _) hn
theorem keysWith_ok {h : hH} {p : Int} {S : Int → Int} (hA : SchemaAt h p) (hR : SchR h p S) (hs : SOk S) (t c : Int) : fX4_keysWith h p t c = some (bitF (fun k => S (40 + k) = t ∧ (S (46 + k) = c ∨ S (52 + k) = c)) (S 1)) := by
  have h1 := hs.2.1
  have e1 := hR.1.2.1
  unfold fX4_keysWith
  refine bit_loop (S 1) _ (fun i b i0 i1 => ?_) (fun b => ?_) h1.1
  · obtain ⟨k0, k1, k2⟩ := keyPart_ok hA hR hs i0 i1
    unfold fX4_keysWith_s5 fX4_keysWith_b47
    simp (disch := omega) only [e1, if_pos i1, k0, k1, k2, Option.bind_some, w32_id]
    by_cases a : S (40 + i) = t
    · simp only [if_pos a]
      by_cases b : S (46 + i) = c
      · simp only [if_pos b]
        exact ⟨fun _ => trivial, fun z => absurd ⟨a, Or.inl b⟩ z⟩
      · simp only [if_neg b]
        by_cases d : S (52 + i) = c
        · simp only [if_pos d]
          exact ⟨fun _ => trivial, fun z => absurd ⟨a, Or.inr d⟩ z⟩
        · simp only [if_neg d]
          exact ⟨fun z => absurd z.2 (fun y => y.elim b d), fun _ => trivial⟩
    · simp only [if_neg a]
      exact ⟨fun z => absurd z.1 a, fun _ => trivial⟩
  · unfold fX4_keysWith_s5
    simp only [e1, if_neg (Int.lt_irrefl _)]
theorem needed_ok {h : hH} {p : Int} {S : Int → Int} (hA : SchemaAt h p) (hR : SchR h p S) (hs : SOk S) {t c : Int} (t0 : 0 ≤ t) (t1 : t < 4) (c0 : 0 ≤ c) (c1 : c < 4) : ∃ b, fX4_needed h p t c = some b ∧ Bt b (nedS S t c) := by
  have h1 := hs.2.1
  have e8 := hA.2.2.2.2.1
  have l5 := hA.2.2.2.2.2.2.2.2.2.2.2.2.1
  have ew := hR.2.2.2.1 (4 * t + c) (by omega) (by omega)
  have e9 : t * 4 + c = 4 * t + c := by omega
  obtain ⟨x, hx⟩ : ∃ x : Nat, S 1 = x := ⟨(S 1).toNat, by omega⟩
  have hb := (bitF_b (P := fun k => S (40 + k) = t ∧ (S (46 + k) = c ∨ S (52 + k) = c)) x (by omega)).2
  rw [← hx] at hb
  unfold fX4_needed fX4_needTold fX4_needed_b18 nedS
  simp (disch := omega) only [e8, w32_id, at_in, e9, ew, Option.bind_some, keysWith_ok hA hR hs]
  by_cases a : S (24 + (4 * t + c)) = 1
  · simp only [if_pos a, Option.bind_some, if_neg (show ¬ (1 : Int) = 0 by decide)]
    exact ⟨1, rfl, Or.inl ⟨rfl, Or.inl a⟩⟩
  · simp only [if_neg a, Option.bind_some, if_true]
    by_cases b : bitF (fun k => S (40 + k) = t ∧ (S (46 + k) = c ∨ S (52 + k) = c)) (S 1) = 0
    · simp only [if_pos b]
      exact ⟨0, rfl, Or.inr ⟨rfl, fun z => z.elim a (fun ⟨k, k0, k1, k2⟩ => hb.mp b k k0 k1 k2)⟩⟩
    · simp only [if_neg b]
      refine ⟨1, rfl, Or.inl ⟨rfl, Or.inr (Classical.byContradiction (fun z => b (hb.mpr (fun k k0 k1 k2 => z ⟨k, k0, k1, k2⟩))))⟩⟩
def KC (v : Int) (h0 h : hH) (L : List (Int × Int × Int)) : Prop := VioC h v L ∧ Only v h0 h
section SCAN
variable {h0 h : hH} {v r p late : Int} {S : Int → Int} {L : List (Int × Int × Int)}
theorem scan4 (hA : VioAt h0 v) (hc : Ctx4 h0 r p S) (ha : Apart v r p) (hs : SOk S) (hv : SVal S) (hK : KC v h0 h L) (hl : (L.length : Int) ≤ 640) : ∃ x, lpO (fX10_scan_s133 h v p r late) (h, 0) = some x ∧ ∃ h', x = (h' v 0, h') ∧ KC v h0 h' (L ++ (rng 0 (S 3)).flatMap (chkL1 S late)) := by
  have h3 := hs.2.2.2.1
  have hn := hc.2.1.2.1
  have hb := liv_len hc.2.1
  refine flat_loop (S 3) (chkL1 S late) _ h3.1 hK (fun i h' i0 i1 hI => ?_) (fun h' hI => ?_)
  · have hc' := hc.tr hI.2 ha
    have en := (Ctx4.nums hI.2 ha).1
    have h3' : h' p 3 = S 3 := hc'.2.2.2.1.2.2.2
    have ep := ph_len (G := chkL1 S late) (fun _ => chkL1_len) hb i0
    have e5 := (hc'.2.2.2.2.2.2.2.2.2 i i0 i1).2.2.2.2.2
    have c142 := (hs.2.2.2.2.2.2.2.2.2 i i0 i1).2.2.2.2.2
    unfold fX10_scan_s133 fX10_scan_b156 chkL1
    simp (disch := omega) only [h3', if_pos i1, checkPart_ok hc'.2.2.1 hs i0 i1, e5, Option.bind_some, w32_id]
    have go : ∃ h'', ((fX10_addChecks h' v p r i).bind fun h161 => some (Sum.inl (β := Int × hH) (h161, i + 1))) = some (.inl (h'', i + 1)) ∧ KC v h0 h'' ((L ++ (rng 0 i).flatMap (chkL1 S late)) ++ pickL S 4 i (fun q => S (249 + q) = S (112 + i) ∧ badC S i q)) := by
      obtain ⟨h'', a1, a2, a3⟩ := addChecks_ok (hA.tr hI.2) hI.1 hc' ha hs hv (by rw [List.length_append, en]; omega) i0 i1
      exact ⟨h'', by rw [a1]; rfl, a2, hI.2.tr a3⟩
    by_cases a : late = 0
    · simp only [if_pos a]
      rcases c142 with b | b
      · simp only [b, if_true]
        rw [if_neg (by omega)]
        exact go
      · simp only [b, if_neg (show ¬ (1 : Int) = 0 by decide)]
        rw [if_pos ⟨a, trivial⟩, List.append_nil]
        exact ⟨h', rfl, hI⟩
    · simp only [if_neg a]
      rw [if_neg (fun z => a z.1)]
      exact go
  · have h3' : h' p 3 = S 3 := (hc.tr hI.2 ha).2.2.2.1.2.2.2
    unfold fX10_scan_s133
    simp only [h3', if_neg (Int.lt_irrefl _)]
    exact ⟨_, rfl, h', rfl, hI⟩
theorem scan3 (hA : VioAt h0 v) (hc : Ctx4 h0 r p S) (ha : Apart v r p) (hs : SOk S) (hv : SVal S) (hK : KC v h0 h L) (hl : (L.length : Int) ≤ 400) : ∃ x, lpO (fX10_scan_s92 h v p r late) (h, 0) = some x ∧ ∃ h', x = (h' v 0, h') ∧ KC v h0 h' (L ++ (rng 0 (S 2)).flatMap (refL1 S late) ++ (rng 0 (S 3)).flatMap (chkL1 S late)) := by
  have h2 := hs.2.2.1
  have hn := hc.2.1.2.1
  have hb := liv_len hc.2.1
  refine flat_loop (S 2) (refL1 S late) _ h2.1 hK (fun i h' i0 i1 hI => ?_) (fun h' hI => ?_)
  · have hc' := hc.tr hI.2 ha
    have en := (Ctx4.nums hI.2 ha).1
    have h2' : h' p 2 = S 2 := hc'.2.2.2.1.2.2.1
    have ep := ph_len (G := refL1 S late) (fun _ => refL1_len) hb i0
    have e6 := (refPart_ok hc'.2.2.1 hc'.2.2.2 hs i0 i1).2.2.2.2.2.2.1
    have c106 := (hs.2.2.2.2.2.2.2.2.1 i i0 i1).2.2.2.2.2.2.2.2.2.2
    unfold fX10_scan_s92 fX10_scan_b116 refL1
    simp (disch := omega) only [h2', if_pos i1, e6, Option.bind_some, w32_id]
    have go : ∃ h'', ((fX10_addRefs h' v p r i).bind fun h161 => some (Sum.inl (β := Int × hH) (h161, i + 1))) = some (.inl (h'', i + 1)) ∧ KC v h0 h'' ((L ++ (rng 0 i).flatMap (refL1 S late)) ++ pickL S 3 i (fun q => S (249 + q) = S (58 + i) ∧ badR S i q)) := by
      obtain ⟨h'', a1, a2, a3⟩ := addRefs_ok (hA.tr hI.2) hI.1 hc' ha hs hv (by rw [List.length_append, en]; omega) i0 i1
      exact ⟨h'', by rw [a1]; rfl, a2, hI.2.tr a3⟩
    by_cases a : late = 0
    · simp only [if_pos a]
      rcases c106 with b | b
      · simp only [b, if_true]
        rw [if_neg (by omega)]
        exact go
      · simp only [b, if_neg (show ¬ (1 : Int) = 0 by decide)]
        rw [if_pos ⟨a, trivial⟩, List.append_nil]
        exact ⟨h', rfl, hI⟩
    · simp only [if_neg a]
      rw [if_neg (fun z => a z.1)]
      exact go
  · have h2' : h' p 2 = S 2 := (hc.tr hI.2 ha).2.2.2.1.2.2.1
    have ep := ph_len (G := refL1 S late) (fun _ => refL1_len) hb h2.1
    unfold fX10_scan_s92
    simp only [h2', if_neg (Int.lt_irrefl _)]
    obtain ⟨x, x1, x2⟩ := scan4 (late := late) hA hc ha hs hv hI (by rw [List.length_append]; omega)
    exact ⟨x, by rw [x1]; rfl, x2⟩
theorem scan2 (hA : VioAt h0 v) (hc : Ctx4 h0 r p S) (ha : Apart v r p) (hs : SOk S) (hv : SVal S) (hK : KC v h0 h L) (hl : (L.length : Int) ≤ 160) : ∃ x, lpO (fX10_scan_s66 h v p r late) (h, 0) = some x ∧ ∃ h', x = (h' v 0, h') ∧ KC v h0 h' (L ++ (rng 0 (S 1)).flatMap (keyL1 S) ++ (rng 0 (S 2)).flatMap (refL1 S late) ++ (rng 0 (S 3)).flatMap (chkL1 S late)) := by
  have h1 := hs.2.1
  have hn := hc.2.1.2.1
  have hb := liv_len hc.2.1
  refine flat_loop (S 1) (keyL1 S) _ h1.1 hK (fun i h' i0 i1 hI => ?_) (fun h' hI => ?_)
  · have hc' := hc.tr hI.2 ha
    have en := (Ctx4.nums hI.2 ha).1
    have h1' : h' p 1 = S 1 := hc'.2.2.2.1.2.1
    have ep := ph_len (G := keyL1 S) (fun _ => pickL_len) hb i0
    unfold fX10_scan_s66
    obtain ⟨h'', a1, a2, a3⟩ := addKeys_ok (hA.tr hI.2) hI.1 hc' ha hs hv (by rw [List.length_append, en]; omega) i0 i1
    simp (disch := omega) only [h1', if_pos i1, a1, Option.bind_some, w32_id]
    exact ⟨h'', rfl, a2, hI.2.tr a3⟩
  · have h1' : h' p 1 = S 1 := (hc.tr hI.2 ha).2.2.2.1.2.1
    have ep := ph_len (G := keyL1 S) (fun _ => pickL_len) hb h1.1
    unfold fX10_scan_s66
    simp only [h1', if_neg (Int.lt_irrefl _)]
    obtain ⟨x, x1, x2⟩ := scan3 (late := late) hA hc ha hs hv hI (by rw [List.length_append]; omega)
    exact ⟨x, by rw [x1]; rfl, x2⟩
/-- the class's list of violations is the list, and it says how many they are -/
theorem scan_ok (hA : VioAt h0 v) (hc : Ctx4 h0 r p S) (ha : Apart v r p) (hs : SOk S) (hv : SVal S) : ∃ h', fX10_scan h0 v p r late = some (((vioL S late).length : Int), h') ∧ VioC h' v (vioL S late) ∧ Only v h0 h' := by
  have hS0 := hs.1
  have hn := hc.2.1.2.1
  have hb := liv_len hc.2.1
  have hK : KC v h0 (hup h0 v 0 0) [] := ⟨⟨hup_at, fun i x hx => by simp at hx⟩, fun a a1 a2 => hup_off a1, fun j hj => hup_ne (fun z => hj z.2), congrFun (hup_off (by omega)) (-1)⟩
  have main : ∃ x, lpO (fX10_scan_s8 (hup h0 v 0 0) v p r late) (hup h0 v 0 0, 0) = some x ∧ ∃ h', x = (h' v 0, h') ∧ KC v h0 h' ([] ++ (rng 0 (S 0)).flatMap (needT S) ++ (rng 0 (S 1)).flatMap (keyL1 S) ++ (rng 0 (S 2)).flatMap (refL1 S late) ++ (rng 0 (S 3)).flatMap (chkL1 S late)) := by
    refine flat_loop (S 0) (needT S) _ hS0.1 hK (fun t h' t0 t1 hI => ?_) (fun h' hI => ?_)
    · have h0' : h' p 0 = S 0 := (hc.tr hI.2 ha).2.2.2.1.1
      have hw := hs.2.2.2.2.1 t t0 t1
      have nl := needs_len hs t.toNat (by omega)
      rw [show ((t.toNat : Nat) : Int) = t by omega] at nl
      have cs := csum_s (S := S) t0
      have cl := csum_le (S := S) (t := t + 1)
      unfold fX10_scan_s8
      simp only [h0', if_pos t1]
      have inner := flat_loop (f := fX10_scan_s20 h' v p r late t) (K := KC v h0) (h := h') (L := [] ++ (rng 0 t).flatMap (needT S)) (S (4 + t)) (needC S t) (fun x => ∃ h'', x = .inl (h'', t + 1) ∧ KC v h0 h'' (([] ++ (rng 0 t).flatMap (needT S)) ++ needT S t)) (by omega) hI (fun c h' c0 c1 hI => ?_) (fun h' hI => ?_)
      · obtain ⟨x, x1, h'', x2, x3⟩ := inner
        exact ⟨h'', by rw [x1, x2], x3⟩
      · have hc' := hc.tr hI.2 ha
        have en := (Ctx4.nums hI.2 ha).1
        obtain ⟨b, b0, b1⟩ := needed_ok hc'.2.2.1 hc'.2.2.2 hs t0 (by omega) c0 (show c < 4 by omega)
        have nl2 := needT_len (S := S) (t := t) (c := c) (by omega)
        unfold fX10_scan_s20
        simp (disch := omega) only [width_ok hc'.2.2.1 hc'.2.2.2 hs, if_pos (show 0 ≤ t ∧ t < S 0 from ⟨t0, t1⟩), if_pos c1, b0, Option.bind_some, w32_id]
        unfold needC
        rcases b1 with ⟨rfl, b2⟩ | ⟨rfl, b2⟩
        · obtain ⟨h'', a1, a2, a3⟩ := addNeeds_ok (t := t) (hA.tr hI.2) hI.1 hc' ha hv (by rw [List.nil_append, List.length_append, en]; omega) c0 (show c < 4 by omega)
          rw [if_neg (by decide), a1, if_pos b2]
          exact ⟨h'', rfl, a2, hI.2.tr a3⟩
        · rw [if_pos rfl, if_neg b2, List.append_nil]
          exact ⟨h', rfl, hI⟩
      · have hc' := hc.tr hI.2 ha
        unfold fX10_scan_s20
        simp (disch := omega) only [width_ok hc'.2.2.1 hc'.2.2.2 hs, if_pos (show 0 ≤ t ∧ t < S 0 from ⟨t0, t1⟩), if_neg (Int.lt_irrefl _), Option.bind_some, w32_id]
        exact ⟨_, rfl, h', rfl, hI⟩
    · have h0' : h' p 0 = S 0 := (hc.tr hI.2 ha).2.2.2.1.1
      have nl := needs_len hs (S 0).toNat (by omega)
      rw [show (((S 0).toNat : Nat) : Int) = S 0 by omega] at nl
      have cl := csum_le (S := S) (t := S 0)
      unfold fX10_scan_s8
      simp only [h0', if_neg (Int.lt_irrefl _)]
      obtain ⟨x, x1, x2⟩ := scan2 (late := late) hA hc ha hs hv hI (by rw [List.nil_append]; omega)
      exact ⟨x, by rw [x1]; rfl, x2⟩
  obtain ⟨x, x1, h', x2, x3⟩ := main
  unfold fX10_scan
  simp only [pput, Option.bind_some]
  refine ⟨h', ?_, x3.1, x3.2⟩
  rw [x1, x2, x3.1.1]
  rfl
end SCAN
