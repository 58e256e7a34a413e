/-! ORDER: the loops -/
theorem ishD_b : ∀ t : Fin 4, 0 ≤ ishD 1 (t.1 : Int) ∧ ishD 1 (t.1 : Int) < 16 := by decide +kernel
/-- the first table that may come next -/
noncomputable def nextT (S : Int → Int) (had : Int) : Int := lrun (fun t (_ : Unit) => @ite _ (freeS S had t) (Classical.propDecidable _) (.inr t) (.inl ())) (fun _ => -1) (rng 0 (S 0)) ()
theorem nextT_or {S : Int → Int} {had : Int} (h0 : 0 ≤ S 0) : (0 ≤ nextT S had ∧ nextT S had < S 0 ∧ freeS S had (nextT S had) ∧ ∀ t, 0 ≤ t → t < nextT S had → ¬ freeS S had t) ∨ (nextT S had = -1 ∧ ∀ t, 0 ≤ t → t < S 0 → ¬ freeS S had t) := by
  by_cases z : ∃ d : Nat, (d : Int) < S 0 ∧ freeS S had d
  · have hex : ∃ d : Nat, ((d : Int) < S 0 ∧ freeS S had d) ∧ ∀ e : Nat, e < d → ¬ ((e : Int) < S 0 ∧ freeS S had e) := by
      obtain ⟨d, hd⟩ := z
      induction d using Nat.strongRecOn with
      | _ d ih =>
        by_cases y : ∃ e : Nat, e < d ∧ (e : Int) < S 0 ∧ freeS S had e
        · obtain ⟨e, e1, e2⟩ := y
          exact ih e e1 e2
        · exact ⟨d, hd, fun e he hf => y ⟨e, he, hf⟩⟩
    obtain ⟨d, ⟨d1, d2⟩, d3⟩ := hex
    have e : nextT S had = d := lrun_first (g := fun t => t) d1 d2 rfl (by omega) (fun k k0 k1 hf => by
      refine d3 k.toNat (by omega) ⟨by omega, ?_⟩
      rw [show ((k.toNat : Nat) : Int) = k by omega]; exact hf)
    rw [e]
    refine Or.inl ⟨by omega, d1, d2, fun t t0 t1 hf => d3 t.toNat (by omega) ⟨by omega, ?_⟩⟩
    rw [show ((t.toNat : Nat) : Int) = t by omega]; exact hf
  · have hn : ∀ t, 0 ≤ t → t < S 0 → ¬ freeS S had t := fun t t0 t1 hf => z ⟨t.toNat, by omega, by rw [show ((t.toNat : Nat) : Int) = t by omega]; exact hf⟩
    exact Or.inr ⟨lrun_none (fun i hi => hn i (mem_rng.mp hi).1 (mem_rng.mp hi).2), hn⟩
/-- k tables in order, if there are -/
noncomputable def ordK (S : Int → Int) : Nat → Option (List Int)
  | 0 => some []
  | k + 1 => match ordK S k with
    | none => none
    | some l => if nextT S (hadL l) = -1 then none else some (l ++ [nextT S (hadL l)])
theorem ordK_len {S : Int → Int} (h0 : 0 ≤ S 0 ∧ S 0 ≤ 4) : ∀ {k : Nat} {l : List Int}, ordK S k = some l → l.length = k ∧ (∀ t ∈ l, 0 ≤ t ∧ t < 4) ∧ 0 ≤ hadL l ∧ hadL l < 16
  | 0, l, h => by cases h; exact ⟨rfl, fun t ht => absurd ht List.not_mem_nil, by decide, by decide⟩
  | k + 1, l, h => by
    unfold ordK at h
    cases hk : ordK S k with
    | none => rw [hk] at h; cases h
    | some m =>
      rw [hk] at h
      dsimp only at h
      obtain ⟨m1, m2, m3, m4⟩ := ordK_len h0 hk
      split at h
      · cases h
      · cases h
        rcases nextT_or (S := S) (had := hadL m) h0.1 with ⟨n1, n2, -, -⟩ | ⟨n1, -⟩
        · refine ⟨by simp [m1], fun t ht => ?_, ?_⟩
          · rcases List.mem_append.mp ht with y | y
            · exact m2 t y
            · rw [List.mem_singleton.mp y]; omega
          · rw [hadL_s]
            exact (bit_st m3 m4 n1 (by omega)).1
        · exact absurd n1 (by assumption)
section ORDER
variable {h : hH}
theorem othersOf_ok {p : Int} {S : Int → Int} (hA : SchemaAt h p) (hR : SchR h p S) (hs : SOk S) {t : Int} (t0 : 0 ≤ t) (t1 : t < 4) : ∃ a, fX4_othersOf h p t = some a ∧ 0 ≤ a ∧ a < 16 ∧ ∀ u, 0 ≤ u → u < 4 → (bitP a u ↔ ∃ f, 0 ≤ f ∧ f < S 2 ∧ S (58 + f) = t ∧ S (76 + f) = u ∧ u ≠ t) := by
  have h0 := hs.1
  have h2 := hs.2.2.1
  unfold fX4_othersOf
  refine lpO_invG (f := fX4_othersOf_s4 h p t) (fun i a => (a, i)) (S 2) (fun i a => 0 ≤ a ∧ a < 16 ∧ ∀ u, 0 ≤ u → u < 4 → (bitP a u ↔ ∃ f, 0 ≤ f ∧ f < i ∧ S (58 + f) = t ∧ S (76 + f) = u ∧ u ≠ t)) (fun a => 0 ≤ a ∧ a < 16 ∧ ∀ u, 0 ≤ u → u < 4 → (bitP a u ↔ ∃ f, 0 ≤ f ∧ f < S 2 ∧ S (58 + f) = t ∧ S (76 + f) = u ∧ u ≠ t)) (fun i a i0 i1 hI => Or.inl ?_) (fun a hI => ?_) (Int.le_refl _) h2.1 ⟨by decide, by decide, fun u u0 u1 => ⟨fun z => absurd z (bit_0 u u0 u1), fun ⟨f, f0, f1, _⟩ => by omega⟩⟩
  · obtain ⟨a0, a1, hb⟩ := hI
    obtain ⟨p0, p1, -⟩ := refPart_ok hA hR hs i0 i1
    obtain ⟨f58, f64, f70, f76, -⟩ := hs.2.2.2.2.2.2.2.2.1 i i0 i1
    have skip : ¬ (S (58 + i) = t ∧ S (76 + i) ≠ t) → (0 ≤ a ∧ a < 16 ∧ ∀ u, 0 ≤ u → u < 4 → (bitP a u ↔ ∃ f, 0 ≤ f ∧ f < i + 1 ∧ S (58 + f) = t ∧ S (76 + f) = u ∧ u ≠ t)) := by
      intro hn
      refine ⟨a0, a1, fun u u0 u1 => (hb u u0 u1).trans ⟨fun ⟨f, f0, f1, f2⟩ => ⟨f, f0, by omega, f2⟩, fun ⟨f, f0, f1, f2, f3, f4⟩ => ⟨f, f0, ?_, f2, f3, f4⟩⟩⟩
      by_cases e : f = i
      · subst e
        exact absurd ⟨f2, by rw [f3]; exact f4⟩ hn
      · omega
    unfold fX4_othersOf_s4
    simp (disch := omega) only [hR.1.2.2.1, if_pos i1, p0, p1, Option.bind_some, w32_id]
    by_cases x : S (58 + i) = t
    · simp only [if_pos x]
      by_cases y : S (76 + i) = t
      · simp only [if_pos y]
        exact ⟨a, rfl, skip (fun z => z.2 y)⟩
      · simp only [if_neg y]
        refine ⟨_, rfl, (bit_st a0 a1 f76.1 (by omega)).1.1, (bit_st a0 a1 f76.1 (by omega)).1.2, fun u u0 u1 => (bit_or a0 a1 f76.1 (by omega) u0 u1).trans ⟨fun z => ?_, fun ⟨f, f0, f1, f2, f3, f4⟩ => ?_⟩⟩
        · rcases z with z | z
          · exact ⟨i, i0, by omega, x, z.symm, by rw [z]; exact y⟩
          · obtain ⟨f, f0, f1, f2⟩ := (hb u u0 u1).mp z
            exact ⟨f, f0, by omega, f2⟩
        · by_cases e : f = i
          · subst e
            exact Or.inl f3.symm
          · exact Or.inr ((hb u u0 u1).mpr ⟨f, f0, by omega, f2, f3, f4⟩)
    · simp only [if_neg x]
      exact ⟨a, rfl, skip (fun z => x z.1)⟩
  · unfold fX4_othersOf_s4
    simp only [hR.1.2.2.1, if_neg (Int.lt_irrefl _)]
    exact ⟨a, rfl, hI⟩
theorem packedOrder_ok {p : Int} {S : Int → Int} (hA : SchemaAt h p) (hR : SchR h p S) (hs : SOk S) : fX4_packedOrder h p = some (match ordK S (S 0).toNat with | some l => pkL l | none => -1) := by
  have h0 := hs.1
  have e0 := hR.1.1
  unfold fX4_packedOrder
  have key := lpO_invG (f := fX4_packedOrder_s6 h p) (fun k (x : Int × Int) => (x.1, x.2, k)) (S 0) (fun k x => ∃ l, ordK S k.toNat = some l ∧ x = (pkL l, hadL l)) (fun r => r = match ordK S (S 0).toNat with | some l => pkL l | none => -1) (fun k x k0 k1 hI => ?_) (fun x hI => ?_) (i := 0) (a := (0, 0)) (Int.le_refl _) h0.1 ⟨[], rfl, rfl⟩
  · obtain ⟨r, r1, r2⟩ := key
    dsimp only at r1
    rw [r1, r2]
  · obtain ⟨l, l1, rfl⟩ := hI
    obtain ⟨m1, m2, m3, m4⟩ := ordK_len h0 l1
    have nx := nextT_or (S := S) (had := hadL l) h0.1
    have inner := lpO_invG (f := fX4_packedOrder_s25 h p (pkL l) (hadL l) k) (fun i c => (c, S 0 - 1 - i)) (S 0) (fun i c => (c = -1 ∧ ∀ t, S 0 - i ≤ t → t < S 0 → ¬ freeS S (hadL l) t) ∨ (S 0 - i ≤ c ∧ c < S 0 ∧ freeS S (hadL l) c ∧ ∀ t, S 0 - i ≤ t → t < c → ¬ freeS S (hadL l) t)) (fun r => r = if nextT S (hadL l) = -1 then .inr (-1) else .inl (iorD (pkL l) (ishD (nextT S (hadL l)) (4 * k)), iorD (hadL l) (ishD 1 (nextT S (hadL l))), k + 1)) (fun i c i0 i1 hI => Or.inl ?_) (fun c hI => ?_) (i := 0) (a := -1) (Int.le_refl _) h0.1 (Or.inl ⟨rfl, fun t t0 t1 => by omega⟩)
    · obtain ⟨r, r1, r2⟩ := inner
      rw [Int.sub_zero] at r1
      unfold fX4_packedOrder_s6
      simp only [e0, if_pos k1]
      rw [w32_id (by omega) (by omega), r1, r2]
      have ek : (k + 1).toNat = k.toNat + 1 := by omega
      by_cases z : nextT S (hadL l) = -1
      · rw [if_pos z]
        refine Or.inr ⟨-1, rfl, ?_⟩
        have : ∀ d : Nat, ordK S (k.toNat + 1 + d) = none := by
          intro d
          induction d with
          | zero =>
            show (match ordK S k.toNat with | none => none | some l => if nextT S (hadL l) = -1 then none else some (l ++ [nextT S (hadL l)])) = none
            rw [l1]
            exact if_pos z
          | succ d ih =>
            show (match ordK S (k.toNat + 1 + d) with | none => none | some l => if nextT S (hadL l) = -1 then none else some (l ++ [nextT S (hadL l)])) = none
            rw [ih]
        have := this ((S 0).toNat - (k.toNat + 1))
        rw [show k.toNat + 1 + ((S 0).toNat - (k.toNat + 1)) = (S 0).toNat by omega] at this
        rw [this]
      · rw [if_neg z]
        refine Or.inl ⟨(iorD (pkL l) (ishD (nextT S (hadL l)) (4 * k)), iorD (hadL l) (ishD 1 (nextT S (hadL l)))), rfl, l ++ [nextT S (hadL l)], ?_, ?_⟩
        · rw [ek]
          show (match ordK S k.toNat with | none => none | some l => if nextT S (hadL l) = -1 then none else some (l ++ [nextT S (hadL l)])) = _
          rw [l1]
          exact if_neg z
        · rw [pkL_s, hadL_s, m1, show ((k.toNat : Nat) : Int) = k by omega]
    · have t0 : 0 ≤ S 0 - 1 - i := by omega
      obtain ⟨a, a1, a2, a3, a4⟩ := othersOf_ok hA hR hs (t := S 0 - 1 - i) t0 (by omega)
      have fr : freeS S (hadL l) (S 0 - 1 - i) ↔ iadD (iusD (hadL l) (S 0 - 1 - i)) 1 = 0 ∧ iadD a (ixoD (hadL l) (-1)) = 0 := by
        rw [(bit01 m3 m4 t0 (by omega)).1, bit_sub a2 a3 m3 m4]
        unfold freeS
        refine and_congr Iff.rfl ⟨fun z u u0 u1 hu => ?_, fun z f f0 f1 f2 => ?_⟩
        · obtain ⟨f, f0, f1, f2, f3, f4⟩ := (a4 u u0 u1).mp hu
          rcases z f f0 f1 f2 with y | y
          · exact absurd (f3.symm.trans y) f4
          · rw [← f3]; exact y
        · by_cases y : S (76 + f) = S 0 - 1 - i
          · exact Or.inl y
          · obtain ⟨-, -, -, f76, -⟩ := hs.2.2.2.2.2.2.2.2.1 f f0 f1
            exact Or.inr (z _ f76.1 (by omega) ((a4 _ f76.1 (by omega)).mpr ⟨f, f0, f1, f2, rfl, y⟩))
      unfold fX4_packedOrder_s25
      dsimp only
      rw [if_neg (by omega), a1]
      simp (disch := omega) only [Option.bind_some, w32_id, show S 0 - 1 - i + -1 = S 0 - 1 - (i + 1) by omega]
      have no : ¬ freeS S (hadL l) (S 0 - 1 - i) → ((c = -1 ∧ ∀ t, S 0 - (i + 1) ≤ t → t < S 0 → ¬ freeS S (hadL l) t) ∨ (S 0 - (i + 1) ≤ c ∧ c < S 0 ∧ freeS S (hadL l) c ∧ ∀ t, S 0 - (i + 1) ≤ t → t < c → ¬ freeS S (hadL l) t)) := by
        intro hn
        rcases hI with ⟨c1, c2⟩ | ⟨c1, c2, c3, c4⟩
        · refine Or.inl ⟨c1, fun t t0 t1 => ?_⟩
          by_cases e : t = S 0 - 1 - i
          · rw [e]; exact hn
          · exact c2 t (by omega) t1
        · refine Or.inr ⟨by omega, c2, c3, fun t t0 t1 => ?_⟩
          by_cases e : t = S 0 - 1 - i
          · rw [e]; exact hn
          · exact c4 t (by omega) t1
      by_cases x : iadD (iusD (hadL l) (S 0 - 1 - i)) 1 = 0
      · simp only [if_pos x]
        by_cases y : iadD a (ixoD (hadL l) (-1)) = 0
        · simp only [if_pos y]
          exact ⟨_, rfl, Or.inr ⟨by omega, by omega, fr.mpr ⟨x, y⟩, fun t t0 t1 => by omega⟩⟩
        · simp only [if_neg y]
          exact ⟨_, rfl, no (fun z => y (fr.mp z).2)⟩
      · simp only [if_neg x]
        exact ⟨_, rfl, no (fun z => x (fr.mp z).1)⟩
    · unfold fX4_packedOrder_s25
      dsimp only
      rw [if_pos (by omega)]
      rcases hI with ⟨c1, c2⟩ | ⟨c1, c2, c3, c4⟩
      · rw [if_pos c1]
        rcases nx with ⟨n1, n2, n3, n4⟩ | ⟨n1, n2⟩
        · exact absurd n3 (c2 _ (by omega) n2)
        · rw [if_pos n1]; exact ⟨_, rfl, rfl⟩
      · rw [if_neg (by omega)]
        have e : nextT S (hadL l) = c := by
          rcases nx with ⟨n1, n2, n3, n4⟩ | ⟨n1, n2⟩
          · rcases Int.lt_trichotomy (nextT S (hadL l)) c with z | z | z
            · exact absurd n3 (c4 _ (by omega) z)
            · exact z
            · exact absurd c3 (n4 c (by omega) z)
          · exact absurd c3 (n2 c (by omega) c2)
        rw [e, if_neg (by omega), w32_id (by omega) (by omega), w32_id (by omega) (by omega)]
        exact ⟨_, rfl, rfl⟩
  · obtain ⟨l, l1, rfl⟩ := hI
    unfold fX4_packedOrder_s6
    simp only [e0, if_neg (Int.lt_irrefl _)]
    rw [l1]
    exact ⟨_, rfl, rfl⟩
theorem isFree_ok (hL : Lay h) (hs : SOk (h 194)) {had t : Int} (a0 : 0 ≤ had) (a1 : had < 16) (t0 : 0 ≤ t) (t1 : t < 4) : ∃ b, fX12_isFree h 192 t had = some b ∧ Bt b (freeS (h 194) had t) := by
  have h0 := hs.1
  have h2 := hs.2.2.1
  obtain ⟨z0, z1⟩ := bit01 a0 a1 t0 t1
  have main : ∀ s0 Q, Bt s0 Q → ∃ b, fX12_isFree_b13 h 192 t had s0 = some b ∧ Bt b (Q ∧ ∀ f, 0 ≤ f → f < h 194 2 → h 194 (58 + f) = t → h 194 (76 + f) = t ∨ bitP had (h 194 (76 + f))) := by
    intro s0 Q hQ
    unfold fX12_isFree_b13
    refine lpO_invG (f := fX12_isFree_s17 h 192 t had) (fun i b => (b, i)) (h 194 2) (fun i b => Bt b (Q ∧ ∀ f, 0 ≤ f → f < i → h 194 (58 + f) = t → h 194 (76 + f) = t ∨ bitP had (h 194 (76 + f)))) _ (fun i b i0 i1 hI => Or.inl ?_) (fun b hI => ?_) (Int.le_refl _) h2.1 (hQ.iff ⟨fun q => ⟨q, fun f f0 f1 => by omega⟩, fun q => q.1⟩)
    · obtain ⟨f58, f64, f70, f76, -⟩ := hs.2.2.2.2.2.2.2.2.1 i i0 i1
      obtain ⟨y0, y1⟩ := bit01 a0 a1 f76.1 (show h 194 (76 + i) < 4 by omega)
      unfold fX12_isFree_s17 fX12_isFree_b77 fX12_bitOf
      simp (disch := omega) only [sgk hL, Option.bind_some, if_pos i1, w32_id, y1]
      rcases hI with ⟨rfl, q1, q2⟩ | ⟨rfl, q1⟩
      · simp only [if_neg (show ¬ (1 : Int) = 0 by decide)]
        have yes : (h 194 (58 + i) = t → h 194 (76 + i) = t ∨ bitP had (h 194 (76 + i))) → Bt 1 (Q ∧ ∀ f, 0 ≤ f → f < i + 1 → h 194 (58 + f) = t → h 194 (76 + f) = t ∨ bitP had (h 194 (76 + f))) := fun hy => Or.inl ⟨rfl, q1, fun f f0 f1 => by
          by_cases e : f = i
          · rw [e]; exact hy
          · exact q2 f f0 (by omega)⟩
        by_cases x : h 194 (58 + i) = t
        · simp only [if_pos x]
          by_cases y : h 194 (76 + i) = t
          · simp only [if_pos y]
            exact ⟨1, rfl, yes (fun _ => Or.inl y)⟩
          · simp only [if_neg y]
            by_cases w : iadD (iusD had (h 194 (76 + i))) 1 = 1
            · simp only [if_pos w, Option.bind_some, if_neg (show ¬ (1 : Int) = 0 by decide)]
              exact ⟨1, rfl, yes (fun _ => Or.inr w)⟩
            · simp only [if_neg w, Option.bind_some, if_true]
              refine ⟨0, rfl, Or.inr ⟨rfl, fun q => ?_⟩⟩
              rcases q.2 i i0 (by omega) x with v | v
              · exact y v
              · exact w v
        · simp only [if_neg x]
          exact ⟨1, rfl, yes (fun z => absurd z x)⟩
      · simp only [if_true]
        exact ⟨0, rfl, Or.inr ⟨rfl, fun q => q1 ⟨q.1, fun f f0 f1 => q.2 f f0 (by omega)⟩⟩⟩
    · unfold fX12_isFree_s17
      simp (disch := omega) only [sgk hL, Option.bind_some, if_neg (Int.lt_irrefl _)]
      exact ⟨b, rfl, hI⟩
  unfold fX12_isFree fX12_bitOf
  rw [z1]
  unfold freeS
  by_cases x : iadD (iusD had t) 1 = 1
  · simp only [if_pos x, Option.bind_some, if_neg (show ¬ (1 : Int) = 0 by decide)]
    exact main 0 _ (Or.inr ⟨rfl, fun z => z x⟩)
  · simp only [if_neg x, Option.bind_some, if_true]
    exact main 1 _ (Or.inl ⟨rfl, x⟩)
end ORDER
