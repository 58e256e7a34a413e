/-! THE CLASS'S READS -/
theorem lrun_none {ρ : Type} {P : Int → Prop} {g : Int → ρ} {fin : Unit → ρ} : ∀ {l : List Int}, (∀ i ∈ l, ¬ P i) → lrun (fun i (_ : Unit) => @ite _ (P i) (Classical.propDecidable _) (.inr (g i)) (.inl ())) fin l () = fin ()
  | [], _ => rfl
  | i :: l, h => by
    unfold lrun
    rw [if_neg (h i List.mem_cons_self)]
    exact lrun_none (fun j hj => h j (List.mem_cons_of_mem _ hj))
theorem lrun_first {ρ : Type} {P : Int → Prop} {g : Int → ρ} {fin : Unit → ρ} {n j : Int} (j1 : j < n) (hj : P j) : ∀ {d : Nat} {i : Int}, (j - i).toNat = d → i ≤ j → (∀ k, i ≤ k → k < j → ¬ P k) → lrun (fun i (_ : Unit) => @ite _ (P i) (Classical.propDecidable _) (.inr (g i)) (.inl ())) fin (rng i n) () = g j
  | 0, i, hd, hi, _ => by
    have : i = j := by omega
    subst this
    rw [rng_cons j1]
    unfold lrun
    rw [if_pos hj]
  | d + 1, i, hd, hi, h => by
    rw [rng_cons (by omega)]
    unfold lrun
    rw [if_neg (h i (Int.le_refl _) (by omega))]
    exact lrun_first j1 hj (d := d) (by omega) (by omega) (fun k h1 h2 => h k (by omega) h2)
def RowsS (h : hH) (r : Int) (S : Int → Int) : Prop := RowsR h r (fun q => S (150 + q)) (fun q => S (249 + q)) (fun i => S (348 + i))
/-- what lives has a table, and numbers or none -/
def SVal (S : Int → Int) : Prop := ∀ q, 0 ≤ q → q < 99 → S (150 + q) = 1 → (0 ≤ S (249 + q) ∧ S (249 + q) < S 0) ∧ ∀ c, 0 ≤ c → c < 4 → (-1 ≤ S (348 + (4 * q + c)) ∧ S (348 + (4 * q + c)) ≤ 99) ∧ (S (4 + S (249 + q)) ≤ c → S (348 + (4 * q + c)) = -1)
section CREADS
variable {h : hH} {p r : Int} {S : Int → Int}
theorem keyPart_ok (hA : SchemaAt h p) (hR : SchR h p S) (hs : SOk S) {k : Int} (k0 : 0 ≤ k) (k1 : k < S 1) : fX4_keyPart h p k 0 = some (S (40 + k)) ∧ fX4_keyPart h p k 1 = some (S (46 + k)) ∧ fX4_keyPart h p k 2 = some (S (52 + k)) := by
  obtain ⟨-, -, -, -, -, a9, -, -, -, -, -, -, -, b6, -, -⟩ := hA
  obtain ⟨e0, e1, e2⟩ := hR.2.2.2.2.1 k k0 k1
  have h1 := hs.2.1
  unfold fX4_keyPart
  rw [w32_id (x := k * 3) (by omega) (by omega), w32_id (x := k * 3 + 0) (by omega) (by omega), w32_id (x := k * 3 + 1) (by omega) (by omega), w32_id (x := k * 3 + 2) (by omega) (by omega), a9, at_in (by omega) (by omega), at_in (by omega) (by omega), at_in (by omega) (by omega), Int.add_zero, e0, e1, e2]
  exact ⟨rfl, rfl, rfl⟩
theorem refPart_ok (hA : SchemaAt h p) (hR : SchR h p S) (hs : SOk S) {f : Int} (f0 : 0 ≤ f) (f1 : f < S 2) : fX4_refPart h p f 0 = some (S (58 + f)) ∧ fX4_refPart h p f 1 = some (S (76 + f)) ∧ fX4_refPart h p f 2 = some (S (82 + f)) ∧ fX4_refPart h p f 3 = some (S (88 + f)) ∧ fX4_refPart h p f 4 = some (S (94 + f)) ∧ fX4_refPart h p f 5 = some (S (100 + f)) ∧ fX4_refPart h p f 6 = some (S (106 + f)) ∧ fX4_refPart h p f 7 = some (S (64 + f)) ∧ fX4_refPart h p f 8 = some (S (70 + f)) := by
  obtain ⟨-, -, -, -, -, -, a10, -, -, -, -, -, -, -, b7, -⟩ := hA
  obtain ⟨e0, e1, e2, e3, e4, e5, e6, e7, e8⟩ := hR.2.2.2.2.2.1 f f0 f1
  have h1 := hs.2.2.1
  have key : ∀ c, 0 ≤ c → c < 9 → fX4_refPart h p f c = some (h (p + 7) (f * 9 + c)) := by
    intro c c0 c1
    unfold fX4_refPart
    rw [w32_id (x := f * 9) (by omega) (by omega), w32_id (x := f * 9 + c) (by omega) (by omega), a10, at_in (by omega) (by omega)]
    rfl
  rw [key 0 (by decide) (by decide), key 1 (by decide) (by decide), key 2 (by decide) (by decide), key 3 (by decide) (by decide), key 4 (by decide) (by decide), key 5 (by decide) (by decide), key 6 (by decide) (by decide), key 7 (by decide) (by decide), key 8 (by decide) (by decide), Int.add_zero, e0, e1, e2, e3, e4, e5, e6, e7, e8]
  exact ⟨rfl, rfl, rfl, rfl, rfl, rfl, rfl, rfl, rfl⟩
theorem checkPart_ok (hA : SchemaAt h p) (hs : SOk S) {k c : Int} (k0 : 0 ≤ k) (k1 : k < S 3) (c0 : 0 ≤ c) (c1 : c < 6) : fX4_checkPart h p k c = some (h (p + 8) (k * 6 + c)) := by
  obtain ⟨-, -, -, -, -, -, -, a11, -, -, -, -, -, -, -, b8⟩ := hA
  have h1 := hs.2.2.2.1
  unfold fX4_checkPart
  rw [w32_id (x := k * 6) (by omega) (by omega), w32_id (x := k * 6 + c) (by omega) (by omega), a11, at_in (by omega) (by omega)]
  rfl
theorem width_ok (hA : SchemaAt h p) (hR : SchR h p S) (hs : SOk S) (t : Int) : fX4_width h p t = some (if 0 ≤ t ∧ t < S 0 then S (4 + t) else 0) := by
  obtain ⟨-, a5, -, -, -, -, -, -, -, b2, -⟩ := hA
  have h0 := hs.1
  unfold fX4_width
  by_cases z : t < 0
  · rw [if_pos z, if_neg (by omega)]
  · rw [if_neg z, hR.1.1]
    by_cases y : t < S 0
    · rw [if_pos y, a5, if_pos (by omega), aget_in (by omega) (by omega), if_pos (by omega), hR.2.1 t (by omega) y]
      rfl
    · rw [if_neg y, if_neg (by omega)]
theorem has_ok (hA : SchemaAt h p) (hR : SchR h p S) (hs : SOk S) (t c : Int) : fX4_has h p t c = some (if (0 ≤ t ∧ t < S 0) ∧ 0 ≤ c ∧ c < S (4 + t) then 1 else 0) := by
  unfold fX4_has
  by_cases z : c < 0
  · rw [if_pos z, if_neg (by omega)]
  · rw [if_neg z, width_ok hA hR hs]
    simp only [Option.bind_some]
    by_cases y : 0 ≤ t ∧ t < S 0
    · rw [if_pos y]
      by_cases x : c < S (4 + t)
      · rw [if_pos x, if_pos ⟨y, by omega, x⟩]
      · rw [if_neg x, if_neg (fun q => x q.2.2)]
    · rw [if_neg y, if_neg (by omega), if_neg (fun q => y q.1)]
/-- where a reference leads: to the place of the row that has the number that the sparse rows tell -/
theorem aim_ok (hA : RowsAt h r) (hR : RowsS h r S) (hPA : SchemaAt h p) (hP : SchR h p S) (hs : SOk S) (hv : SVal S) {i f : Int} (i0 : 0 ≤ i) (i1 : i < h r 0) (f0 : 0 ≤ f) (f1 : f < S 2) :
    if S (249 + h (r + 1) i) = S (58 + f) then ∃ j, fX3_aim h r p i f = some j ∧ ((tgS S (h (r + 1) i) f = -1 ∧ j = -1) ∨ (0 ≤ j ∧ j < h r 0 ∧ h (r + 1) j = tgS S (h (r + 1) i) f)) else fX3_aim h r p i f = some (-1) := by
  obtain ⟨n0, n1, hd, hinc, hbit, hall⟩ := hR
  have hR : RowsS h r S := ⟨n0, n1, hd, hinc, hbit, hall⟩
  obtain ⟨p0, p1, p2, -, -, -, -, p7, p8⟩ := refPart_ok hPA hP hs f0 f1
  obtain ⟨f58, f64, f70, f76, f82, fk, fsec, -, -, -, -⟩ := hs.2.2.2.2.2.2.2.2.1 f f0 f1
  obtain ⟨k0, k1, k2⟩ := keyPart_ok hPA hP hs f82.1 f82.2
  obtain ⟨k40, k46, k52⟩ := hs.2.2.2.2.2.2.2.1 _ f82.1 f82.2
  have ht := hs.2.2.2.2.1 _ f58.1 f58.2
  have htk := hs.2.2.2.2.1 _ k40.1 k40.2
  obtain ⟨m0, m1, m2, m3, m4⟩ := hd i i0 i1
  have hvi := (hv _ m0 m1 m2).2
  have av : ∀ c, 0 ≤ c → c < 4 → ∀ j, 0 ≤ j → j < h r 0 → fX3_value h r j c = some (S (348 + (4 * h (r + 1) j + c))) := by
    intro c c0 c1 j j0 j1
    rw [value_in hA j0 (by omega) c0 c1, (hd j j0 j1).2.2.2.2 c c0 c1]
  unfold fX3_aim
  rw [tableAt_in hA n1 i0 i1, p0, m3]
  simp only [Option.bind_some]
  by_cases ht2 : S (249 + h (r + 1) i) = S (58 + f)
  · rw [if_pos ht2, if_pos ht2, p7]
    simp only [Option.bind_some]
    rw [av _ (by omega) (by omega) i i0 i1, p8]
    simp only [Option.bind_some]
    have v1 := (hvi (S (64 + f)) (by omega) (by omega)).1
    have main : ∀ w : Int, (S (70 + f) = -1 ∨ w = S (348 + (4 * h (r + 1) i + S (70 + f)))) → ¬ S (348 + (4 * h (r + 1) i + S (64 + f))) = -1 → ¬ (0 ≤ S (70 + f) ∧ S (348 + (4 * h (r + 1) i + S (70 + f))) < 0) → ∃ j, fX3_aim_b78 h r p f (S (348 + (4 * h (r + 1) i + S (64 + f)))) w = some j ∧ ((tgS S (h (r + 1) i) f = -1 ∧ j = -1) ∨ (0 ≤ j ∧ j < h r 0 ∧ h (r + 1) j = tgS S (h (r + 1) i) f)) := by
      intro w hw hv0 hv1
      unfold fX3_aim_b78
      rw [p1, p2]
      simp only [Option.bind_some]
      rw [k1]
      simp only [Option.bind_some]
      rw [k2]
      simp only [Option.bind_some]
      have etg : tgS S (h (r + 1) i) f = lrun (fun j (_ : Unit) => @ite _ (h (r + 2) j = S (76 + f) ∧ kyS S (h (r + 1) j) (S (82 + f)) (S (348 + (4 * h (r + 1) i + S (64 + f)))) (if S (70 + f) < 0 then 0 else S (348 + (4 * h (r + 1) i + S (70 + f))))) (Classical.propDecidable _) (.inr (h (r + 1) j)) (.inl ())) (fun _ => -1) (rng 0 (h r 0)) () := by
        unfold tgS
        rw [if_neg (by omega)]
        refine lrun_rows hR (fun q q0 q1 hq a => if_neg (fun z => by rw [hq] at z; exact absurd z.1 (by decide))) (fun j j0 j1 a => ?_)
        obtain ⟨-, -, g2, g3, -⟩ := hd j j0 j1
        by_cases y : h (r + 2) j = S (76 + f) ∧ kyS S (h (r + 1) j) (S (82 + f)) (S (348 + (4 * h (r + 1) i + S (64 + f)))) (if S (70 + f) < 0 then 0 else S (348 + (4 * h (r + 1) i + S (70 + f))))
        · rw [if_pos y, if_pos ⟨g2, g3.symm.trans y.1, y.2⟩]
        · rw [if_neg y, if_neg (fun z => y ⟨g3.trans z.2.1, z.2.2⟩)]
      have hfind := lpO_find (f := fX3_aim_s115 h r (S (348 + (4 * h (r + 1) i + S (64 + f)))) w (S (76 + f)) (S (46 + S (82 + f))) (S (52 + S (82 + f)))) (fun j => j) (h r 0) (fun j => h (r + 2) j = S (76 + f) ∧ kyS S (h (r + 1) j) (S (82 + f)) (S (348 + (4 * h (r + 1) i + S (64 + f)))) (if S (70 + f) < 0 then 0 else S (348 + (4 * h (r + 1) i + S (70 + f))))) (fun j => j) (-1) (fun j j0 j1 => by
        unfold fX3_aim_s115
        rw [if_pos j1, hA.2.1, at_in j0 (by rw [hA.2.2.2.2.1]; omega)]
        simp only [Option.bind_some]
        by_cases y : h (r + 2) j = S (76 + f)
        · rw [if_pos y, av _ (by omega) (by omega) j j0 j1]
          simp only [Option.bind_some]
          by_cases x : S (348 + (4 * h (r + 1) j + S (46 + S (82 + f)))) = S (348 + (4 * h (r + 1) i + S (64 + f)))
          · rw [if_pos x]
            by_cases u : S (52 + S (82 + f)) = -1
            · rw [if_pos u]
              exact ⟨fun _ => rfl, fun z => absurd ⟨y, x, Or.inl (by omega)⟩ z⟩
            · have u2 : ¬ S (70 + f) = -1 := fun z => u (fsec.mpr z)
              rw [if_neg u, av _ (by omega) (by omega) j j0 j1]
              simp only [Option.bind_some]
              have hw2 : w = S (348 + (4 * h (r + 1) i + S (70 + f))) := hw.resolve_left u2
              rw [hw2, if_neg (show ¬ S (70 + f) < 0 by omega)]
              by_cases t : S (348 + (4 * h (r + 1) j + S (52 + S (82 + f)))) = S (348 + (4 * h (r + 1) i + S (70 + f)))
              · rw [if_pos t]
                exact ⟨fun _ => rfl, fun z => absurd ⟨y, x, Or.inr t⟩ z⟩
              · rw [if_neg t, w1 (by omega) (by omega)]
                exact ⟨fun z => absurd (z.2.2.resolve_left (by omega)) t, fun _ => rfl⟩
          · rw [if_neg x, w1 (by omega) (by omega)]
            exact ⟨fun z => absurd z.2.1 x, fun _ => rfl⟩
        · rw [if_neg y, w1 (by omega) (by omega)]
          exact ⟨fun z => absurd z.1 y, fun _ => rfl⟩) (by
        unfold fX3_aim_s115
        rw [if_neg (Int.lt_irrefl _)]) (i := 0) (Int.le_refl _) n0
      rcases hfind with ⟨j, j0, j1, j2, j3, j4⟩ | ⟨j1, j2⟩
      · refine ⟨j, j4, Or.inr ⟨j0, j1, ?_⟩⟩
        rw [etg]
        exact (lrun_first j1 j2 rfl j0 (fun k k0 k1 => j3 k k0 k1)).symm
      · refine ⟨-1, j2, Or.inl ⟨?_, rfl⟩⟩
        rw [etg]
        exact lrun_none (fun k hk => j1 k (mem_rng.mp hk).1 (mem_rng.mp hk).2)
    by_cases a : S (70 + f) = -1
    · rw [if_pos a]
      unfold fX3_aim_b56
      by_cases b : S (348 + (4 * h (r + 1) i + S (64 + f))) = -1
      · rw [if_pos b]
        refine ⟨-1, rfl, Or.inl ⟨?_, rfl⟩⟩
        unfold tgS
        rw [if_pos (Or.inl (by omega))]
      · rw [if_neg b, if_pos a]
        exact main _ (Or.inl a) b (by omega)
    · rw [if_neg a, av _ (by omega) (by omega) i i0 i1]
      simp only [Option.bind_some]
      have v2 := (hvi (S (70 + f)) (by omega) (by omega)).1
      unfold fX3_aim_b56
      by_cases b : S (348 + (4 * h (r + 1) i + S (64 + f))) = -1
      · rw [if_pos b]
        refine ⟨-1, rfl, Or.inl ⟨?_, rfl⟩⟩
        unfold tgS
        rw [if_pos (Or.inl (by omega))]
      · rw [if_neg b, if_neg a]
        by_cases c : S (348 + (4 * h (r + 1) i + S (70 + f))) = -1
        · rw [if_pos c]
          refine ⟨-1, rfl, Or.inl ⟨?_, rfl⟩⟩
          unfold tgS
          rw [if_pos (Or.inr (by omega))]
        · rw [if_neg c]
          exact main _ (Or.inr rfl) b (by omega)
  · rw [if_neg ht2, if_neg ht2]
end CREADS
