/-! VIOLATIONS: the class's list grows -/
theorem rng_snoc {i n : Int} (h : i ≤ n) : rng i (n + 1) = rng i n ++ [n] := by
  obtain ⟨k, hk⟩ : ∃ k : Nat, n = i + k := ⟨(n - i).toNat, by omega⟩
  subst hk
  have e1 : (i + (k : Int) + 1 - i).toNat = k + 1 := by omega
  have e2 : (i + (k : Int) - i).toNat = k := by omega
  unfold rng
  rw [e1, e2, List.range_succ, List.map_append]
  rfl
theorem lpO_inv {ρ : Type} {f : hH × Int → Option ((hH × Int) ⊕ ρ)} (n : Int) (I : Int → hH → Prop) (P : ρ → Prop) (hs : ∀ i h, 0 ≤ i → i < n → I i h → ∃ h', f (h, i) = some (.inl (h', i + 1)) ∧ I (i + 1) h') (he : ∀ h, I n h → ∃ r, f (h, n) = some (.inr r) ∧ P r) {i : Int} {h : hH} (h0 : 0 ≤ i) (hi : i ≤ n) (ha : I i h) : ∃ r, lpO f (h, i) = some r ∧ P r := by
  generalize hd : (n - i).toNat = d
  induction d generalizing i h with
  | zero =>
    have : i = n := by omega
    subst this
    obtain ⟨r, h1, h2⟩ := he h ha
    exact ⟨r, lpO_inr h1, h2⟩
  | succ d ih =>
    obtain ⟨h', h1, h2⟩ := hs i h h0 (by omega) ha
    obtain ⟨r, h3, h4⟩ := ih (by omega) (by omega) h2 (by omega)
    exact ⟨r, by rw [lpO_inl h1]; exact h3, h4⟩
/-- only the list v of violations is another -/
def Only (v : Int) (h h' : hH) : Prop := (∀ a, a ≠ v → a ≠ v + 1 → h' a = h a) ∧ (∀ j, j ≠ 0 → h' v j = h v j) ∧ h' (v + 1) (-1) = h (v + 1) (-1)
theorem Only.rf {v : Int} {h : hH} : Only v h h := ⟨fun _ _ _ => rfl, fun _ _ => rfl, rfl⟩
theorem Only.tr {v : Int} {a b c : hH} (h1 : Only v a b) (h2 : Only v b c) : Only v a c := ⟨fun x h3 h4 => (h2.1 x h3 h4).trans (h1.1 x h3 h4), fun j hj => (h2.2.1 j hj).trans (h1.2.1 j hj), h2.2.2.trans h1.2.2⟩
def pk (x : Int × Int × Int) : Int := iorD (iorD (ishD x.1 16) (ishD x.2.1 8)) x.2.2
def VioAt (h : hH) (v : Int) : Prop := h v 1 = v + 1 ∧ h (v + 1) (-1) = 880
def VioC (h : hH) (v : Int) (L : List (Int × Int × Int)) : Prop := h v 0 = L.length ∧ ∀ (i : Nat) (x : Int × Int × Int), L[i]? = some x → h (v + 1) i = pk x
theorem VioAt.tr {v : Int} {h h' : hH} (hA : VioAt h v) (ho : Only v h h') : VioAt h' v := ⟨(ho.2.1 1 (by decide)).trans hA.1, ho.2.2.trans hA.2⟩
theorem add_ok {h : hH} {v : Int} {L : List (Int × Int × Int)} (hA : VioAt h v) (hV : VioC h v L) (hl : L.length < 880) (a b c : Int) : ∃ h', fX10_add h v a b c = some h' ∧ VioC h' v (L ++ [(a, b, c)]) ∧ Only v h h' := by
  obtain ⟨e1, e2⟩ := hA
  obtain ⟨v0, v1⟩ := hV
  unfold fX10_add
  rw [e1, put_in (by omega) (by omega)]
  simp only [Option.bind_some]
  have n1 : v ≠ v + 1 := by omega
  have n2 : v + 1 ≠ v := by omega
  have g0 : hup h (v + 1) (h v 0) (iorD (iorD (ishD a 16) (ishD b 8)) c) v = h v := hup_off n1
  have g1 : hup h (v + 1) (h v 0) (iorD (iorD (ishD a 16) (ishD b 8)) c) (v + 1) (-1) = h (v + 1) (-1) := hup_ne (by omega)
  rw [g0, e1, g1, if_pos (by omega)]
  simp only [pput, Option.bind_some]
  refine ⟨_, rfl, ⟨?_, fun i x hx => ?_⟩, ⟨fun y h3 h4 => ?_, fun j hj => ?_, ?_⟩⟩
  · rw [hup_at, w32_id (by omega) (by omega), List.length_append, v0]
    rfl
  · rw [hup_off n2]
    by_cases hi : i < L.length
    · rw [hup_ne (by omega)]
      rw [List.getElem?_append_left hi] at hx
      exact v1 i x hx
    · rw [List.getElem?_append_right (by omega)] at hx
      have hz : i - L.length < 1 := (List.getElem?_eq_some_iff.mp hx).1
      have hi2 : i = L.length := by omega
      subst hi2
      rw [Nat.sub_self] at hx
      cases hx
      rw [v0, hup_at]
      rfl
  · rw [hup_off h3, hup_off h4]
  · rw [hup_ne (fun z => hj z.2), g0]
  · rw [hup_off n2, g1]
/-- a loop over the dense places that tells of those that are so -/
theorem vio_loop {f : hH × Int → Option ((hH × Int) ⊕ hH)} {h : hH} {v n : Int} {L : List (Int × Int × Int)} (Pd : Int → Prop) (kind number : Int) (num : Int → Int) (hA : VioAt h v) (hV : VioC h v L) (hn : 0 ≤ n) (hlen : (L.length : Int) + n ≤ 880)
    (hs : ∀ i h', 0 ≤ i → i < n → Only v h h' → (Pd i → f (h', i) = (fX10_add h' v kind number (num i)).bind (fun h'' => some (.inl (h'', i + 1)))) ∧ (¬ Pd i → f (h', i) = some (.inl (h', i + 1)))) (he : ∀ h', Only v h h' → f (h', n) = some (.inr h')) :
    ∃ h', lpO f (h, 0) = some h' ∧ VioC h' v (L ++ ((rng 0 n).filter (fun i => @decide (Pd i) (Classical.propDecidable _))).map (fun i => (kind, number, num i))) ∧ Only v h h' := by
  refine lpO_inv n (fun i h' => Only v h h' ∧ VioC h' v (L ++ ((rng 0 i).filter (fun i => @decide (Pd i) (Classical.propDecidable _))).map (fun i => (kind, number, num i)))) (fun h' => VioC h' v (L ++ ((rng 0 n).filter (fun i => @decide (Pd i) (Classical.propDecidable _))).map (fun i => (kind, number, num i))) ∧ Only v h h') (fun i h' i0 i1 hI => ?_) (fun h' hI => ⟨h', he h' hI.1, hI.2, hI.1⟩) (Int.le_refl _) hn ⟨Only.rf, ?_⟩
  · obtain ⟨s1, s2⟩ := hs i h' i0 i1 hI.1
    rw [rng_snoc i0, List.filter_append, List.map_append]
    by_cases hp : Pd i
    · have hfl : ([i] : List Int).filter (fun i => @decide (Pd i) (Classical.propDecidable _)) = [i] := by
        rw [List.filter_cons_of_pos (by simpa using hp)]
        rfl
      have hll : ((rng 0 i).filter (fun i => @decide (Pd i) (Classical.propDecidable _))).length ≤ i.toNat := by
        refine Nat.le_trans (List.length_filter_le _ _) ?_
        unfold rng
        simp
      obtain ⟨h'', a1, a2, a3⟩ := add_ok (hA.tr hI.1) hI.2 (by rw [List.length_append, List.length_map]; omega) kind number (num i)
      refine ⟨h'', ?_, hI.1.tr a3, ?_⟩
      · rw [s1 hp, a1]
        rfl
      · rw [hfl, ← List.append_assoc]
        exact a2
    · have hfl : ([i] : List Int).filter (fun i => @decide (Pd i) (Classical.propDecidable _)) = [] := by
        rw [List.filter_cons_of_neg (by simpa using hp)]
        rfl
      refine ⟨h', s2 hp, hI.1, ?_⟩
      rw [hfl]
      simpa using hI.2
  · rw [rng_nil (Int.le_refl _)]
    simpa using hV
/-- the rows and the schema that are looked at lie elsewhere -/
def Apart (v r p : Int) : Prop := ∀ a, (a = v ∨ a = v + 1) → (∀ k, 0 ≤ k → k < 4 → a ≠ r + k) ∧ ∀ k, 0 ≤ k → k < 9 → a ≠ p + k
def Ctx4 (h : hH) (r p : Int) (S : Int → Int) : Prop := RowsAt h r ∧ RowsS h r S ∧ SchemaAt h p ∧ SchR h p S
theorem Ctx4.eq {h h' : hH} {r p : Int} {S : Int → Int} (hc : Ctx4 h r p S) (er : ∀ k, 0 ≤ k → k < 4 → h' (r + k) = h (r + k)) (ep : ∀ k, 0 ≤ k → k < 9 → h' (p + k) = h (p + k)) : Ctx4 h' r p S := by
  have r0 := er 0 (by decide) (by decide)
  have r1 := er 1 (by decide) (by decide)
  have r2 := er 2 (by decide) (by decide)
  have r3 := er 3 (by decide) (by decide)
  have p0 := ep 0 (by decide) (by decide)
  have p1 := ep 1 (by decide) (by decide)
  have p2 := ep 2 (by decide) (by decide)
  have p3 := ep 3 (by decide) (by decide)
  have p4 := ep 4 (by decide) (by decide)
  have p5 := ep 5 (by decide) (by decide)
  have p6 := ep 6 (by decide) (by decide)
  have p7 := ep 7 (by decide) (by decide)
  have p8 := ep 8 (by decide) (by decide)
  rw [Int.add_zero] at r0 p0
  unfold Ctx4 RowsAt RowsS RowsR SchemaAt SchR at hc ⊢
  rw [r0, r1, r2, r3, p0, p1, p2, p3, p4, p5, p6, p7, p8]
  exact hc
theorem Ctx4.tr {h h' : hH} {v r p : Int} {S : Int → Int} (hc : Ctx4 h r p S) (ho : Only v h h') (ha : Apart v r p) : Ctx4 h' r p S :=
  hc.eq (fun k k0 k1 => ho.1 _ (fun z => (ha v (Or.inl rfl)).1 k k0 k1 z.symm) (fun z => (ha (v + 1) (Or.inr rfl)).1 k k0 k1 z.symm)) (fun k k0 k1 => ho.1 _ (fun z => (ha v (Or.inl rfl)).2 k k0 k1 z.symm) (fun z => (ha (v + 1) (Or.inr rfl)).2 k k0 k1 z.symm))
theorem Ctx4.nums {h h' : hH} {v r p : Int} (ho : Only v h h') (ha : Apart v r p) : h' r = h r ∧ h' (r + 1) = h (r + 1) ∧ h' (r + 2) = h (r + 2) ∧ h' (r + 3) = h (r + 3) := by
  have e : ∀ k, 0 ≤ k → k < 4 → h' (r + k) = h (r + k) := fun k k0 k1 => ho.1 _ (fun z => (ha v (Or.inl rfl)).1 k k0 k1 z.symm) (fun z => (ha (v + 1) (Or.inr rfl)).1 k k0 k1 z.symm)
  have r0 := e 0 (by decide) (by decide)
  rw [Int.add_zero] at r0
  exact ⟨r0, e 1 (by decide) (by decide), e 2 (by decide) (by decide), e 3 (by decide) (by decide)⟩
/-- who lives, in order -/
def liv (S : Int → Int) : List Int := alv (fun q => S (150 + q))
noncomputable def pickL (S : Int → Int) (kind number : Int) (P : Int → Prop) : List (Int × Int × Int) := ((liv S).filter (fun q => @decide (P q) (Classical.propDecidable _))).map (fun q => (kind, number, q))
theorem pick_eq {h : hH} {r : Int} {S : Int → Int} (hR : RowsS h r S) {kind number : Int} {P Pd : Int → Prop} (hP : ∀ i, 0 ≤ i → i < h r 0 → (P (h (r + 1) i) ↔ Pd i)) : ((rng 0 (h r 0)).filter (fun i => @decide (Pd i) (Classical.propDecidable _))).map (fun i => (kind, number, h (r + 1) i)) = pickL S kind number P := by
  unfold pickL liv
  rw [alv_eq hR, List.filter_map, List.map_map]
  congr 1
  apply List.filter_congr
  intro i hi
  obtain ⟨i0, i1⟩ := mem_rng.mp hi
  have := hP i i0 i1
  simp only [Function.comp_apply, decide_eq_decide]
  exact this.symm
theorem addNeeds_ok {h : hH} {v r p : Int} {S : Int → Int} {L : List (Int × Int × Int)} (hA : VioAt h v) (hV : VioC h v L) (hc : Ctx4 h r p S) (ha : Apart v r p) (hv : SVal S) (hlen : (L.length : Int) + h r 0 ≤ 880) {t c : Int} (c0 : 0 ≤ c) (c1 : c < 4) :
    ∃ h', fX10_addNeeds h v r t c = some h' ∧ VioC h' v (L ++ pickL S 1 c (fun q => S (249 + q) = t ∧ S (348 + (4 * q + c)) < 0)) ∧ Only v h h' := by
  obtain ⟨hRA, hR, -, -⟩ := hc
  have hn := hR.2.1
  have e9 := pick_eq hR (kind := 1) (number := c) (P := fun q => S (249 + q) = t ∧ S (348 + (4 * q + c)) < 0) (Pd := fun i => h (r + 2) i = t ∧ h (r + 3) (4 * i + c) = -1) (fun i i0 i1 => by
    obtain ⟨m0, m1, m2, m3, m4⟩ := hR.2.2.1 i i0 i1
    have := ((hv _ m0 m1 m2).2 c c0 c1).1
    rw [m3, m4 c c0 c1]
    dsimp only
    omega)
  rw [← e9]
  unfold fX10_addNeeds
  refine vio_loop (fun i => h (r + 2) i = t ∧ h (r + 3) (4 * i + c) = -1) 1 c (h (r + 1)) hA hV hR.1 hlen (fun i h' i0 i1 ho => ?_) (fun h' ho => ?_)
  · obtain ⟨q0, q1, q2, q3⟩ := Ctx4.nums ho ha
    have hRA' : RowsAt h' r := by unfold RowsAt; rw [q0, q1, q2, q3]; exact hRA
    have hn' : h' r 0 ≤ 40 := by rw [q0]; exact hn
    have i1' : i < h' r 0 := by rw [q0]; exact i1
    unfold fX10_addNeeds_s3
    dsimp only
    rw [if_pos i1', tableAt_in hRA' hn' i0 i1', q2]
    simp only [Option.bind_some]
    by_cases a : h (r + 2) i = t
    · rw [if_pos a, value_in hRA' i0 (by omega) c0 c1, q3]
      simp only [Option.bind_some]
      by_cases b : h (r + 3) (4 * i + c) = -1
      · rw [if_pos b, numberAt_in hRA' hn' i0 i1', q1]
        simp only [Option.bind_some]
        rw [w1 (by omega) (by omega)]
        exact ⟨fun _ => rfl, fun z => absurd ⟨a, b⟩ z⟩
      · rw [if_neg b, w1 (by omega) (by omega)]
        exact ⟨fun z => absurd z.2 b, fun _ => rfl⟩
    · rw [if_neg a, w1 (by omega) (by omega)]
      exact ⟨fun z => absurd z.1 a, fun _ => rfl⟩
  · obtain ⟨q0, -, -, -⟩ := Ctx4.nums ho ha
    unfold fX10_addNeeds_s3
    dsimp only
    rw [q0, if_neg (Int.lt_irrefl _)]
