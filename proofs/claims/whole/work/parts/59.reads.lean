/-! BITS OF TABLES: table, perils; what was told; col, mean, without what is thrown -/
theorem ior0 : ∀ b : Fin 256, iorD (b.1 : Int) 0 = (b.1 : Int) := by decide +kernel
theorem ior_0 {b : Int} (h0 : 0 ≤ b) (h1 : b < 256) : iorD b 0 = b := by
  have := ior0 ⟨b.toNat, by omega⟩
  dsimp only at this
  rwa [show ((b.toNat : Nat) : Int) = b by omega] at this
theorem bit_set : ∀ a : Fin 16, ∀ t : Fin 4, 0 ≤ iorD (a.1 : Int) (ishD 1 (t.1 : Int)) ∧ iorD (a.1 : Int) (ishD 1 (t.1 : Int)) < 16 ∧ isrD (a.1 : Int) (t.1 : Int) = iusD (a.1 : Int) (t.1 : Int) := by decide +kernel
theorem bit_st {a t : Int} (a0 : 0 ≤ a) (a1 : a < 16) (t0 : 0 ≤ t) (t1 : t < 4) : (0 ≤ iorD a (ishD 1 t) ∧ iorD a (ishD 1 t) < 16) ∧ isrD a t = iusD a t := by
  have := bit_set ⟨a.toNat, by omega⟩ ⟨t.toNat, by omega⟩
  dsimp only at this
  rw [show ((a.toNat : Nat) : Int) = a by omega, show ((t.toNat : Nat) : Int) = t by omega] at this
  exact ⟨⟨this.1, this.2.1⟩, this.2.2⟩
def perF (S : Int → Int) (t : Int) (a f : Int) : Int := if S (88 + f) = 1 ∧ (S (76 + f) = t ∨ iadD (iusD a (S (76 + f))) 1 = 1) then iorD a (ishD 1 (S (58 + f))) else a
def perS (S : Int → Int) (t : Int) : Int := (rng 0 4).foldl (fun a _ => (rng 0 (S 2)).foldl (perF S t) a) 0
theorem perF_b {S : Int → Int} (hs : SOk S) {t a f : Int} (f0 : 0 ≤ f) (f1 : f < S 2) (ha : 0 ≤ a ∧ a < 16) : 0 ≤ perF S t a f ∧ perF S t a f < 16 := by
  have h0 := hs.1
  obtain ⟨f58, -⟩ := hs.2.2.2.2.2.2.2.2.1 f f0 f1
  unfold perF
  split
  · exact (bit_st ha.1 ha.2 f58.1 (by omega)).1
  · exact ha
section READS
variable {h : hH}
theorem perilsC_ok {p : Int} {S : Int → Int} (hA : SchemaAt h p) (hR : SchR h p S) (hs : SOk S) (t : Int) : fX4_perils h p t = some (perS S t) := by
  have h0 := hs.1
  have h2 := hs.2.2.1
  unfold fX4_perils perS
  refine (lpO_fold (f := fX4_perils_s4 h p t) (fun i a => (a, i)) 4 (fun a _ => (rng 0 (S 2)).foldl (perF S t) a) (fun a => a) (fun a => 0 ≤ a ∧ a < 16) (fun i a i0 i1 ha => ?_) (fun a ha => ?_) (by decide) (by decide)).1
  · have inner := lpO_fold (f := fX4_perils_s12 h p t i) (fun f a => (a, f)) (S 2) (perF S t) (fun a => (.inl (a, i + 1) : (Int × Int) ⊕ Int)) (fun a => 0 ≤ a ∧ a < 16) (fun f a f0 f1 ha => ?_) (fun a ha => ?_) h2.1 ha
    · unfold fX4_perils_s4
      simp only [if_pos i1]
      exact ⟨inner.1, inner.2⟩
    · refine ⟨?_, perF_b hs f0 f1 ha⟩
      obtain ⟨p0, p1, -, p3, -⟩ := refPart_ok hA hR hs f0 f1
      unfold fX4_perils_s12 fX4_perils_b57 perF
      simp (disch := omega) only [hR.1.2.2.1, if_pos f1, p0, p1, p3, Option.bind_some, w32_id]
      by_cases x : S (88 + f) = 1
      · simp only [if_pos x]
        by_cases y : S (76 + f) = t
        · rw [if_pos y, if_pos ⟨x, Or.inl y⟩]
        · rw [if_neg y]
          by_cases z : iadD (iusD a (S (76 + f))) 1 = 1
          · rw [if_pos z, if_pos ⟨x, Or.inr z⟩]
          · rw [if_neg z, if_neg (fun w => w.2.elim y z)]
      · simp only [if_neg x]
        rw [if_neg (fun w => x w.1)]
    · unfold fX4_perils_s12
      simp (disch := omega) only [hR.1.2.2.1, if_neg (Int.lt_irrefl _), w32_id]
  · unfold fX4_perils_s4
    simp only [if_neg (show ¬ (4 : Int) < 4 by decide)]
theorem perilsM_ok (hL : Lay h) (hs : SOk (h 194)) (t : Int) : fX12_perils h 192 t = some (perS (h 194) t) := by
  have h0 := hs.1
  have h2 := hs.2.2.1
  unfold fX12_perils perS
  refine (lpO_fold (f := fX12_perils_s4 h 192 t) (fun i a => (a, i)) 4 (fun a _ => (rng 0 (h 194 2)).foldl (perF (h 194) t) a) (fun a => a) (fun a => 0 ≤ a ∧ a < 16) (fun i a i0 i1 ha => ?_) (fun a ha => ?_) (by decide) (by decide)).1
  · have inner := lpO_fold (f := fX12_perils_s12 h 192 t i) (fun f a => (a, f)) (h 194 2) (perF (h 194) t) (fun a => (.inl (a, i + 1) : (Int × Int) ⊕ Int)) (fun a => 0 ≤ a ∧ a < 16) (fun f a f0 f1 ha => ?_) (fun a ha => ?_) h2.1 ha
    · unfold fX12_perils_s4
      simp only [if_pos i1]
      exact ⟨inner.1, inner.2⟩
    · refine ⟨?_, perF_b hs f0 f1 ha⟩
      obtain ⟨f58, f64, f70, f76, -⟩ := hs.2.2.2.2.2.2.2.2.1 f f0 f1
      have eb := (bit_st ha.1 ha.2 f76.1 (by omega)).2
      unfold fX12_perils_s12 fX12_perils_b68 perF fX12_bitOf
      simp (disch := omega) only [w32_id, sgk hL, Option.bind_some, if_pos f1, eb]
      by_cases x : h 194 (88 + f) = 1
      · simp only [if_pos x]
        by_cases y : h 194 (76 + f) = t
        · rw [if_pos y, if_pos ⟨x, Or.inl y⟩]
        · rw [if_neg y]
          by_cases z : iadD (iusD a (h 194 (76 + f))) 1 = 1
          · rw [if_pos z, if_pos ⟨x, Or.inr z⟩]
            rfl
          · rw [if_neg z, if_neg (fun w => w.2.elim y z)]
            rfl
      · simp only [if_neg x]
        rw [if_neg (fun w => x w.1)]
    · unfold fX12_perils_s12
      simp (disch := omega) only [sgk hL, Option.bind_some, if_neg (Int.lt_irrefl _), w32_id]
  · unfold fX12_perils_s4
    simp only [if_neg (show ¬ (4 : Int) < 4 by decide)]
theorem keysOf_ok {p : Int} {S : Int → Int} (hA : SchemaAt h p) (hR : SchR h p S) (hs : SOk S) (t : Int) : fX4_keysOf h p t = some (bitF (fun k => S (40 + k) = t) (S 1)) := by
  have h1 := hs.2.1
  unfold fX4_keysOf
  refine bit_loop (S 1) _ (fun i b i0 i1 => ?_) (fun b => ?_) h1.1
  · unfold fX4_keysOf_s4
    simp (disch := omega) only [hR.1.2.1, if_pos i1, (keyPart_ok hA hR hs i0 i1).1, Option.bind_some, w32_id]
    by_cases a : S (40 + i) = t
    · simp only [if_pos a]; exact ⟨fun _ => trivial, fun z => absurd a z⟩
    · simp only [if_neg a]; exact ⟨fun z => absurd z a, fun _ => trivial⟩
  · unfold fX4_keysOf_s4
    simp only [hR.1.2.1, if_neg (Int.lt_irrefl _)]
theorem refsBy_ok {p : Int} {S : Int → Int} (hA : SchemaAt h p) (hR : SchR h p S) (hs : SOk S) (part t : Int) (g : Int → Int) (hg : ∀ f, 0 ≤ f → f < S 2 → fX4_refPart h p f part = some (g f)) : fX4_refsBy h p part t = some (bitF (fun f => g f = t) (S 2)) := by
  have h2 := hs.2.2.1
  unfold fX4_refsBy
  refine bit_loop (S 2) _ (fun i b i0 i1 => ?_) (fun b => ?_) h2.1
  · unfold fX4_refsBy_s5
    simp (disch := omega) only [hR.1.2.2.1, if_pos i1, hg i i0 i1, Option.bind_some, w32_id]
    by_cases a : g i = t
    · simp only [if_pos a]; exact ⟨fun _ => trivial, fun z => absurd a z⟩
    · simp only [if_neg a]; exact ⟨fun z => absurd z a, fun _ => trivial⟩
  · unfold fX4_refsBy_s5
    simp only [hR.1.2.2.1, if_neg (Int.lt_irrefl _)]
theorem refsWith_ok {p : Int} {S : Int → Int} (hA : SchemaAt h p) (hR : SchR h p S) (hs : SOk S) (t c : Int) : fX4_refsWith h p t c = some (bitF (fun f => S (58 + f) = t ∧ (S (64 + f) = c ∨ S (70 + f) = c)) (S 2)) := by
  have h2 := hs.2.2.1
  unfold fX4_refsWith
  refine bit_loop (S 2) _ (fun i b i0 i1 => ?_) (fun b => ?_) h2.1
  · obtain ⟨p0, -, -, -, -, -, -, p7, p8⟩ := refPart_ok hA hR hs i0 i1
    unfold fX4_refsWith_s5 fX4_refsWith_b49
    simp (disch := omega) only [hR.1.2.2.1, if_pos i1, p0, p7, p8, Option.bind_some, w32_id]
    by_cases a : S (58 + i) = t
    · simp only [if_pos a]
      by_cases b : S (64 + i) = c
      · simp only [if_pos b]
        exact ⟨fun _ => trivial, fun z => absurd ⟨a, Or.inl b⟩ z⟩
      · simp only [if_neg b]
        by_cases d : S (70 + i) = c
        · simp only [if_pos d]
          exact ⟨fun _ => trivial, fun z => absurd ⟨a, Or.inr d⟩ z⟩
        · simp only [if_neg d]
          exact ⟨fun z => absurd z.2 (fun y => y.elim b d), fun _ => trivial⟩
    · simp only [if_neg a]
      exact ⟨fun z => absurd z.1 a, fun _ => trivial⟩
  · unfold fX4_refsWith_s5
    simp only [hR.1.2.2.1, if_neg (Int.lt_irrefl _)]
/-- a bit loop of the model: nought is laid where it isn't so -/
theorem bitF_bd {P : Int → Prop} {n : Int} (n0 : 0 ≤ n) (n1 : n ≤ 6) : 0 ≤ bitF P n ∧ bitF P n < 256 := by
  obtain ⟨d, hd⟩ : ∃ d : Nat, n = d := ⟨n.toNat, by omega⟩
  subst hd
  have hd6 : d ≤ 6 := by omega
  have := (bitF_b (P := P) d (by omega)).1
  have h9 : d = 0 ∨ d = 1 ∨ d = 2 ∨ d = 3 ∨ d = 4 ∨ d = 5 ∨ d = 6 := by omega
  refine ⟨this.1, Int.lt_trans this.2 ?_⟩
  rcases h9 with rfl | rfl | rfl | rfl | rfl | rfl | rfl <;> decide
theorem bit_loopM {ρ : Type} {f : Int × Int → Option ((Int × Int) ⊕ ρ)} (n : Int) (P : Int → Prop) (Q : ρ → Prop) (hs : ∀ i b, 0 ≤ i → i < n → 0 ≤ b → b < 256 → (P i → f (b, i) = some (.inl (iorD b (ishD 1 i), i + 1))) ∧ (¬ P i → f (b, i) = some (.inl (iorD b 0, i + 1)))) (he : ∃ r, f (bitF P n, n) = some (.inr r) ∧ Q r) (hn : 0 ≤ n) (hn6 : n ≤ 6) : ∃ r, lpO f (0, 0) = some r ∧ Q r := by
  have key : ∀ (d : Nat) (i : Int), (n - i).toNat = d → 0 ≤ i → i ≤ n → ∃ r, lpO f (bitF P i, i) = some r ∧ Q r := by
    intro d
    induction d with
    | zero =>
      intro i hd i0 i1
      have : i = n := by omega
      subst this
      obtain ⟨r, r1, r2⟩ := he
      exact ⟨r, lpO_inr r1, r2⟩
    | succ d ih =>
      intro i hd i0 i1
      have b := bitF_bd (P := P) i0 (show i ≤ 6 by omega)
      have := ih (i + 1) (by omega) (by omega) (by omega)
      rw [bitF_s i0] at this
      by_cases z : P i
      · rw [if_pos z] at this
        rw [lpO_inl ((hs i _ i0 (by omega) b.1 b.2).1 z)]
        exact this
      · rw [if_neg z] at this
        rw [lpO_inl ((hs i _ i0 (by omega) b.1 b.2).2 z), ior_0 b.1 b.2]
        exact this
  exact key _ 0 rfl (Int.le_refl _) hn
theorem table_ok (hL : Lay h) (h1 : SchI h) (t what : Int) : ∃ r, fX11_table h 0 t what = some r ∧ fX12_table h 192 t what = some (r, Th h) := by
  have Lt := th_lay hL
  have es : Th h 194 = h 194 := th_off (by decide)
  have hs := h1.2
  have hs0 := hs.1
  have hs1 := hs.2.1
  have hs2 := hs.2.2.1
  unfold fX11_table fX12_table
  rw [ly_0_1 hL, th_p, h1.1.1.1]
  simp only [Option.bind_some]
  rw [isTable_ok Lt (by rw [es]; exact hs), es]
  simp only [Option.bind_some, ifb]
  by_cases a : 0 ≤ t ∧ t < h 194 0
  · rw [if_neg (show ¬ t < 0 by omega), if_pos a.2]
    simp only [if_pos a]
    have m : ∃ r, lpO (fX12_table_s26 (Th h) 192 t what 0 0) (0, 0) = some r ∧ r = ((if what = 0 then h 194 (4 + t) else if what = 1 then bitF (fun k => h 194 (40 + k) = t) (h 194 1) else if what = 2 then bitF (fun f => h 194 (58 + f) = t) (h 194 2) else if what = 3 then bitF (fun f => h 194 (76 + f) = t) (h 194 2) else if what = 4 then perS (h 194) t else -1), Th h) := by
      refine bit_loopM (h 194 1) (fun k => h 194 (40 + k) = t) _ (fun i b i0 i1 b0 b1 => ?_) ?_ hs1.1 hs1.2
      · unfold fX12_table_s26 fX12_table_b60
        simp (disch := omega) only [sgk Lt, es, Option.bind_some, if_pos i1, w32_id]
        by_cases x : h 194 (40 + i) = t
        · simp only [if_pos x]; exact ⟨fun _ => trivial, fun z => absurd x z⟩
        · simp only [if_neg x]; exact ⟨fun z => absurd z x, fun _ => trivial⟩
      · generalize hk : bitF (fun k => h 194 (40 + k) = t) (h 194 1) = keys
        unfold fX12_table_s26
        simp (disch := omega) only [sgk Lt, es, Option.bind_some, if_neg (Int.lt_irrefl _)]
        have key : ∀ (d : Nat) (i : Int), (h 194 2 - i).toNat = d → 0 ≤ i → i ≤ h 194 2 → lpO (fX12_table_s71 (Th h) 192 t what keys) (bitF (fun f => h 194 (58 + f) = t) i, bitF (fun f => h 194 (76 + f) = t) i, i) = some ((if what = 0 then h 194 (4 + t) else if what = 1 then keys else if what = 2 then bitF (fun f => h 194 (58 + f) = t) (h 194 2) else if what = 3 then bitF (fun f => h 194 (76 + f) = t) (h 194 2) else if what = 4 then perS (h 194) t else -1), Th h) := by
          intro d
          induction d with
          | zero =>
            intro i hd i0 i1
            have : i = h 194 2 := by omega
            subst this
            refine lpO_inr ?_
            unfold fX12_table_s71
            simp (disch := omega) only [sgk Lt, es, Option.bind_some, if_neg (Int.lt_irrefl _), w32_id, perilsM_ok Lt (show SOk (Th h 194) by rw [es]; exact hs)]
            by_cases w0 : what = 0
            · rw [if_pos w0, if_pos w0]
            · rw [if_neg w0, if_neg w0]
              by_cases w1 : what = 1
              · rw [if_pos w1, if_pos w1]
              · rw [if_neg w1, if_neg w1]
                by_cases w2 : what = 2
                · rw [if_pos w2, if_pos w2]
                · rw [if_neg w2, if_neg w2]
                  by_cases w3 : what = 3
                  · rw [if_pos w3, if_pos w3]
                  · rw [if_neg w3, if_neg w3]
                    by_cases w4 : what = 4
                    · rw [if_pos w4, if_pos w4]
                    · rw [if_neg w4, if_neg w4]
          | succ d ih =>
            intro i hd i0 i1
            have := ih (i + 1) (by omega) (by omega) (by omega)
            have b1 := bitF_bd (P := fun f => h 194 (58 + f) = t) i0 (show i ≤ 6 by omega)
            have b2 := bitF_bd (P := fun f => h 194 (76 + f) = t) i0 (show i ≤ 6 by omega)
            rw [bitF_s i0, bitF_s i0] at this
            have st : fX12_table_s71 (Th h) 192 t what keys (bitF (fun f => h 194 (58 + f) = t) i, bitF (fun f => h 194 (76 + f) = t) i, i) = some (.inl (@ite _ (h 194 (58 + i) = t) (Classical.propDecidable _) (iorD (bitF (fun f => h 194 (58 + f) = t) i) (ishD 1 i)) (bitF (fun f => h 194 (58 + f) = t) i), @ite _ (h 194 (76 + i) = t) (Classical.propDecidable _) (iorD (bitF (fun f => h 194 (76 + f) = t) i) (ishD 1 i)) (bitF (fun f => h 194 (76 + f) = t) i), i + 1)) := by
              unfold fX12_table_s71 fX12_table_b106 fX12_table_b133
              simp (disch := omega) only [sgk Lt, es, Option.bind_some, if_pos (show i < h 194 2 by omega), w32_id]
              by_cases x : h 194 (58 + i) = t
              · simp only [if_pos x]
                by_cases y : h 194 (76 + i) = t
                · simp only [if_pos y]
                · simp only [if_neg y, ior_0 b2.1 b2.2]
              · simp only [if_neg x, ior_0 b1.1 b1.2]
                by_cases y : h 194 (76 + i) = t
                · simp only [if_pos y]
                · simp only [if_neg y, ior_0 b2.1 b2.2]
            rw [lpO_inl st]
            exact this
        have k0 := key _ 0 rfl (Int.le_refl _) hs2.1
        rw [show bitF (fun f => h 194 (58 + f) = t) 0 = 0 from rfl, show bitF (fun f => h 194 (76 + f) = t) 0 = 0 from rfl] at k0
        rw [k0]
        exact ⟨_, rfl, rfl⟩
    obtain ⟨r, m1, m2⟩ := m
    rw [m1, m2]
    rw [width_ok (schAt4 hL) h1.1 hs, if_pos a, keysOf_ok (schAt4 hL) h1.1 hs, refsBy_ok (schAt4 hL) h1.1 hs 0 t (fun f => h 194 (58 + f)) (fun f f0 f1 => (refPart_ok (schAt4 hL) h1.1 hs f0 f1).1), refsBy_ok (schAt4 hL) h1.1 hs 1 t (fun f => h 194 (76 + f)) (fun f f0 f1 => (refPart_ok (schAt4 hL) h1.1 hs f0 f1).2.1), perilsC_ok (schAt4 hL) h1.1 hs]
    refine ⟨_, ?_, rfl⟩
    by_cases w0 : what = 0
    · rw [if_pos w0, if_pos w0]; rfl
    · rw [if_neg w0, if_neg w0]
      by_cases w1 : what = 1
      · rw [if_pos w1, if_pos w1]; rfl
      · rw [if_neg w1, if_neg w1]
        by_cases w2 : what = 2
        · rw [if_pos w2, if_pos w2]; rfl
        · rw [if_neg w2, if_neg w2]
          by_cases w3 : what = 3
          · rw [if_pos w3, if_pos w3]; rfl
          · rw [if_neg w3, if_neg w3]
            by_cases w4 : what = 4
            · rw [if_pos w4, if_pos w4]; rfl
            · rw [if_neg w4, if_neg w4]
  · simp only [if_neg a]
    by_cases b : t < 0
    · rw [if_pos b]; exact ⟨-1, rfl, rfl⟩
    · rw [if_neg b, if_neg (by omega)]; exact ⟨-1, rfl, rfl⟩
end READS
