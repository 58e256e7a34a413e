/-! VIOLATIONS, on: what is read of rows in a loop; keys, references, checks -/
def RD (h : hH) (r : Int) (S : Int → Int) (n : Int) (N : Int → Int) : Prop := h r 0 = n ∧ 0 ≤ n ∧ n ≤ 40 ∧ (∀ i, 0 ≤ i → i < n → fX3_tableAt h r i = some (S (249 + N i))) ∧ (∀ i, 0 ≤ i → i < n → fX3_numberAt h r i = some (N i)) ∧ (∀ i c, 0 ≤ i → i < n → 0 ≤ c → c < 4 → fX3_value h r i c = some (S (348 + (4 * N i + c)))) ∧ (∀ i, 0 ≤ i → i < n → 0 ≤ N i ∧ N i < 99 ∧ S (150 + N i) = 1) ∧ (∀ i j, 0 ≤ i → i < j → j < n → N i < N j) ∧ ∀ q, 0 ≤ q → q < 99 → S (150 + q) = 1 → ∃ i, 0 ≤ i ∧ i < n ∧ N i = q
theorem RowsS.rd {h : hH} {r : Int} {S : Int → Int} (hA : RowsAt h r) (hR : RowsS h r S) : RD h r S (h r 0) (h (r + 1)) := by
  obtain ⟨n0, n1, hd, hinc, hbit, hall⟩ := hR
  refine ⟨rfl, n0, n1, fun i i0 i1 => ?_, fun i i0 i1 => numberAt_in hA n1 i0 i1, fun i c i0 i1 c0 c1 => ?_, fun i i0 i1 => ⟨(hd i i0 i1).1, (hd i i0 i1).2.1, (hd i i0 i1).2.2.1⟩, hinc, hall⟩
  · rw [tableAt_in hA n1 i0 i1, (hd i i0 i1).2.2.2.1]
  · rw [value_in hA i0 (by omega) c0 c1, (hd i i0 i1).2.2.2.2 c c0 c1]
theorem Ctx4.rd {h : hH} {r p : Int} {S : Int → Int} (hc : Ctx4 h r p S) : RD h r S (h r 0) (h (r + 1)) := RowsS.rd hc.1 hc.2.1
theorem Ctx4.rd2 {h h' : hH} {v r p : Int} {S : Int → Int} (hc : Ctx4 h r p S) (ho : Only v h h') (ha : Apart v r p) : RD h' r S (h r 0) (h (r + 1)) := by
  obtain ⟨q0, q1, q2, q3⟩ := Ctx4.nums ho ha
  have := (hc.tr ho ha).rd
  rw [q0, q1] at this
  exact this
theorem pick_loop {f : hH × Int → Option ((hH × Int) ⊕ hH)} {h : hH} {v r p : Int} {S : Int → Int} {L : List (Int × Int × Int)} (hA : VioAt h v) (hV : VioC h v L) (hc : Ctx4 h r p S) (ha : Apart v r p) (hlen : (L.length : Int) + h r 0 ≤ 880) (kind number : Int) (P : Int → Prop)
    (hs : ∀ i h', 0 ≤ i → i < h r 0 → RD h' r S (h r 0) (h (r + 1)) → Ctx4 h' r p S → (P (h (r + 1) i) → f (h', i) = (fX10_add h' v kind number (h (r + 1) i)).bind (fun h'' => some (.inl (h'', i + 1)))) ∧ (¬ P (h (r + 1) i) → f (h', i) = some (.inl (h', i + 1)))) (he : ∀ h', RD h' r S (h r 0) (h (r + 1)) → f (h', h r 0) = some (.inr h')) :
    ∃ h', lpO f (h, 0) = some h' ∧ VioC h' v (L ++ pickL S kind number P) ∧ Only v h h' := by
  have hR := hc.2.1
  rw [← pick_eq hR (kind := kind) (number := number) (P := P) (Pd := fun i => P (h (r + 1) i)) (fun i _ _ => Iff.rfl)]
  exact vio_loop (fun i => P (h (r + 1) i)) kind number (h (r + 1)) hA hV hR.1 hlen (fun i h' i0 i1 ho => hs i h' i0 i1 (hc.rd2 ho ha) (hc.tr ho ha)) (fun h' ho => he h' (hc.rd2 ho ha))
/-- one more than the first with these values -/
def dblS (S : Int → Int) (k q : Int) : Prop := 0 ≤ S (348 + (4 * q + S (46 + k))) ∧ (S (52 + k) < 0 ∨ 0 ≤ S (348 + (4 * q + S (52 + k)))) ∧ ∃ j, 0 ≤ j ∧ j < q ∧ S (150 + j) = 1 ∧ S (249 + j) = S (40 + k) ∧ kyS S j k (S (348 + (4 * q + S (46 + k)))) (if S (52 + k) < 0 then 0 else S (348 + (4 * q + S (52 + k))))
theorem isDouble_ok {h : hH} {r k i n : Int} {S N : Int → Int} (hD : RD h r S n N) (hs : SOk S) (hv : SVal S) (k0 : 0 ≤ k) (k1 : k < S 1) (i0 : 0 ≤ i) (i1 : i < n) (ht : S (249 + N i) = S (40 + k)) : ∃ b, fX10_isDouble h r i (S (46 + k)) (S (52 + k)) = some b ∧ (b = 0 ∨ b = 1) ∧ (b = 1 ↔ dblS S k (N i)) := by
  obtain ⟨e0, n0, n1, tA, nA, vA, nR, nI, nS⟩ := hD
  obtain ⟨k40, k46, k52⟩ := hs.2.2.2.2.2.2.2.1 k k0 k1
  have hw := hs.2.2.2.2.1 _ k40.1 k40.2
  obtain ⟨m0, m1, m2⟩ := nR i i0 i1
  have hvi := (hv _ m0 m1 m2).2
  have v1 := (hvi (S (46 + k)) (by omega) (by omega)).1
  have main : ∀ w, (S (52 + k) < 0 ∨ w = S (348 + (4 * N i + S (52 + k)))) → (∃ b, fX10_isDouble_b51 h r i (S (46 + k)) (S (52 + k)) (S (40 + k)) (S (348 + (4 * N i + S (46 + k)))) w = some b ∧ (b = 0 ∨ b = 1) ∧ (b = 1 ↔ ∃ j, 0 ≤ j ∧ j < N i ∧ S (150 + j) = 1 ∧ S (249 + j) = S (40 + k) ∧ kyS S j k (S (348 + (4 * N i + S (46 + k)))) (if S (52 + k) < 0 then 0 else S (348 + (4 * N i + S (52 + k)))))) := by
    intro w hw2
    unfold fX10_isDouble_b51
    rcases lpO_find (f := fX10_isDouble_s54 h r i (S (46 + k)) (S (52 + k)) (S (40 + k)) (S (348 + (4 * N i + S (46 + k)))) w) (fun j => j) i (fun j => S (249 + N j) = S (40 + k) ∧ kyS S (N j) k (S (348 + (4 * N i + S (46 + k)))) (if S (52 + k) < 0 then 0 else S (348 + (4 * N i + S (52 + k))))) (fun _ => 1) 0 (fun j j0 j1 => by
      unfold fX10_isDouble_s54
      simp (disch := omega) only [if_pos j1, tA j j0, vA j (S (46 + k)) j0, Option.bind_some, w1]
      unfold kyS
      by_cases a : S (249 + N j) = S (40 + k)
      · simp only [if_pos a]
        by_cases b : S (348 + (4 * N j + S (46 + k))) = S (348 + (4 * N i + S (46 + k)))
        · simp only [if_pos b]
          by_cases c : S (52 + k) = -1
          · simp only [if_pos c]
            exact ⟨fun _ => trivial, fun z => absurd ⟨a, b, Or.inl (by omega)⟩ z⟩
          · have hw3 := hw2.resolve_left (by omega)
            simp (disch := omega) only [if_neg c, vA j (S (52 + k)) j0, Option.bind_some, if_neg (show ¬ S (52 + k) < 0 by omega)]
            rw [← hw3]
            by_cases d : S (348 + (4 * N j + S (52 + k))) = w
            · simp only [if_pos d]
              exact ⟨fun _ => trivial, fun z => absurd ⟨a, b, Or.inr d⟩ z⟩
            · simp only [if_neg d]
              exact ⟨fun z => absurd (z.2.2.resolve_left (by omega)) d, fun _ => trivial⟩
        · simp only [if_neg b]
          exact ⟨fun z => absurd z.2.1 b, fun _ => trivial⟩
      · simp only [if_neg a]
        exact ⟨fun z => absurd z.1 a, fun _ => trivial⟩) (by
      unfold fX10_isDouble_s54
      rw [if_neg (Int.lt_irrefl _)]) (i := 0) (Int.le_refl _) i0 with ⟨j, j0, j1, j2, -, j3⟩ | ⟨j1, j2⟩
    · exact ⟨1, j3, Or.inr rfl, fun _ => ⟨N j, (nR j j0 (by omega)).1, nI j i j0 j1 i1, (nR j j0 (by omega)).2.2, j2.1, j2.2⟩, fun _ => rfl⟩
    · refine ⟨0, j2, Or.inl rfl, fun z => absurd z (by decide), fun ⟨q, q0, q1, q2, q3, q4⟩ => ?_⟩
      obtain ⟨j, j0, j3, j4⟩ := nS q q0 (by omega) q2
      have : j < i := by
        refine Classical.byContradiction (fun z => ?_)
        by_cases y : i < j
        · have := nI i j i0 y j3; omega
        · have : i = j := by omega
          subst this
          omega
      subst j4
      exact absurd ⟨q3, q4⟩ (j1 j j0 this)
  unfold fX10_isDouble
  simp (disch := omega) only [tA i i0, vA i (S (46 + k)) i0, Option.bind_some, ht]
  unfold fX10_isDouble_b30 dblS
  by_cases a : S (52 + k) = -1
  · simp only [if_pos a]
    by_cases b : S (348 + (4 * N i + S (46 + k))) = -1
    · simp only [if_pos b]
      exact ⟨0, rfl, Or.inl rfl, fun z => absurd z (by decide), fun z => absurd z.1 (by omega)⟩
    · simp only [if_neg b]
      obtain ⟨b1, h1, h2, h3⟩ := main (-1) (Or.inl (by omega))
      exact ⟨b1, h1, h2, h3.trans ⟨fun z => ⟨by omega, Or.inl (by omega), z⟩, fun z => z.2.2⟩⟩
  · have v2 := (hvi (S (52 + k)) (by omega) (by omega)).1
    simp (disch := omega) only [if_neg a, vA i (S (52 + k)) i0, Option.bind_some]
    by_cases b : S (348 + (4 * N i + S (46 + k))) = -1
    · simp only [if_pos b]
      exact ⟨0, rfl, Or.inl rfl, fun z => absurd z (by decide), fun z => absurd z.1 (by omega)⟩
    · simp only [if_neg b]
      by_cases c : S (348 + (4 * N i + S (52 + k))) = -1
      · simp only [if_pos c]
        exact ⟨0, rfl, Or.inl rfl, fun z => absurd z (by decide), fun z => absurd z.2.1 (by omega)⟩
      · simp only [if_neg c]
        obtain ⟨b1, h1, h2, h3⟩ := main _ (Or.inr rfl)
        exact ⟨b1, h1, h2, h3.trans ⟨fun z => ⟨by omega, Or.inr (by omega), z⟩, fun z => z.2.2⟩⟩
theorem addKeys_ok {h : hH} {v r p : Int} {S : Int → Int} {L : List (Int × Int × Int)} (hA : VioAt h v) (hV : VioC h v L) (hc : Ctx4 h r p S) (ha : Apart v r p) (hs : SOk S) (hv : SVal S) (hlen : (L.length : Int) + h r 0 ≤ 880) {k : Int} (k0 : 0 ≤ k) (k1 : k < S 1) :
    ∃ h', fX10_addKeys h v p r k = some h' ∧ VioC h' v (L ++ pickL S 2 k (fun q => S (249 + q) = S (40 + k) ∧ dblS S k q)) ∧ Only v h h' := by
  obtain ⟨p0, p1, p2⟩ := keyPart_ok hc.2.2.1 hc.2.2.2 hs k0 k1
  unfold fX10_addKeys
  simp only [p0, p1, p2, Option.bind_some]
  refine pick_loop hA hV hc ha hlen 2 k _ (fun i h' i0 i1 hD hc' => ?_) (fun h' hD => ?_)
  · obtain ⟨e0, n0, n1, tA, nA, -⟩ := id hD
    have i1' : i < h' r 0 := by omega
    unfold fX10_addKeys_s27
    simp (disch := omega) only [if_pos i1', tA i i0, nA i i0, Option.bind_some, w1]
    by_cases a : S (249 + h (r + 1) i) = S (40 + k)
    · obtain ⟨b, h1, h2, h3⟩ := isDouble_ok hD hs hv k0 k1 i0 i1 a
      simp only [if_pos a, h1, Option.bind_some]
      rcases h2 with rfl | rfl
      · simp only [if_true]
        exact ⟨fun z => absurd (h3.mpr z.2) (by decide), fun _ => trivial⟩
      · simp only [if_neg (show ¬ (1 : Int) = 0 by decide)]
        exact ⟨fun _ => trivial, fun z => absurd ⟨a, h3.mp rfl⟩ z⟩
    · simp only [if_neg a]
      exact ⟨fun z => absurd z.1 a, fun _ => trivial⟩
  · unfold fX10_addKeys_s27
    simp only [hD.1, if_neg (Int.lt_irrefl _)]
def badR (S : Int → Int) (f q : Int) : Prop := if 0 ≤ S (348 + (4 * q + S (64 + f))) ∧ (S (70 + f) < 0 ∨ 0 ≤ S (348 + (4 * q + S (70 + f)))) then tgS S q f < 0 else S (100 + f) = 1 ∧ 0 ≤ S (70 + f) ∧ (0 ≤ S (348 + (4 * q + S (64 + f))) ∨ 0 ≤ S (348 + (4 * q + S (70 + f))))
theorem addRefs_ok {h : hH} {v r p : Int} {S : Int → Int} {L : List (Int × Int × Int)} (hA : VioAt h v) (hV : VioC h v L) (hc : Ctx4 h r p S) (ha : Apart v r p) (hs : SOk S) (hv : SVal S) (hlen : (L.length : Int) + h r 0 ≤ 880) {f : Int} (f0 : 0 ≤ f) (f1 : f < S 2) :
    ∃ h', fX10_addRefs h v p r f = some h' ∧ VioC h' v (L ++ pickL S 3 f (fun q => S (249 + q) = S (58 + f) ∧ badR S f q)) ∧ Only v h h' := by
  obtain ⟨p0, -, -, -, -, p5, -, p7, p8⟩ := refPart_ok hc.2.2.1 hc.2.2.2 hs f0 f1
  obtain ⟨f58, f64, f70, f76, f82, fk, fsec, -, -, f100, -⟩ := hs.2.2.2.2.2.2.2.2.1 f f0 f1
  have ht := hs.2.2.2.2.1 _ f58.1 f58.2
  have main : ∀ b, (b = 0 ∨ b = 1) → (b = 1 ↔ S (100 + f) = 1) → ∃ h', fX10_addRefs_b41 h v p r f (S (58 + f)) (S (64 + f)) (S (70 + f)) b = some h' ∧ VioC h' v (L ++ pickL S 3 f (fun q => S (249 + q) = S (58 + f) ∧ badR S f q)) ∧ Only v h h' := by
    intro b hb hb1
    unfold fX10_addRefs_b41
    refine pick_loop hA hV hc ha hlen 3 f _ (fun i h' i0 i1 hD hc' => ?_) (fun h' hD => ?_)
    · obtain ⟨e0, n0, n1, tA, nA, vA, nR, -⟩ := id hD
      have i1' : i < h' r 0 := by omega
      obtain ⟨m0, m1, m2⟩ := nR i i0 i1
      have hvi := (hv _ m0 m1 m2).2
      have v1 := (hvi (S (64 + f)) (by omega) (by omega)).1
      have haim := aim_ok hc'.1 hc'.2.1 hc'.2.2.1 hc'.2.2.2 hs hv (i := i) (f := f) i0 i1' f0 f1
      have eN : h' (r + 1) i = h (r + 1) i := by
        have q1 := nA i i0 i1
        rw [numberAt_in hc'.1 (by omega) i0 i1'] at q1
        exact Option.some.inj q1
      rw [eN] at haim
      unfold fX10_addRefs_s46
      simp (disch := omega) only [if_pos i1', tA i i0, vA i _ i0, Option.bind_some, w1]
      by_cases a : S (249 + h (r + 1) i) = S (58 + f)
      · rw [if_pos a] at haim
        obtain ⟨j, j1, j2⟩ := haim
        have tgneg : j = -1 ↔ tgS S (h (r + 1) i) f < 0 := by
          rcases j2 with ⟨c1, c2⟩ | ⟨c0, c1, c2⟩
          · omega
          · have cc := (hc'.2.1.2.2.1 j c0 c1).1
            rw [c2] at cc
            omega
        simp only [if_pos a]
        have fin : ∀ s0, (s0 = 0 ∨ s0 = 1) → (s0 = 1 ↔ badR S f (h (r + 1) i)) → (S (249 + h (r + 1) i) = S (58 + f) ∧ badR S f (h (r + 1) i) → fX10_addRefs_b152 h' v p r f (S (58 + f)) (S (64 + f)) (S (70 + f)) b i s0 = (fX10_add h' v 3 f (h (r + 1) i)).bind (fun h'' => some (.inl (h'', i + 1)))) ∧ (¬ (S (249 + h (r + 1) i) = S (58 + f) ∧ badR S f (h (r + 1) i)) → fX10_addRefs_b152 h' v p r f (S (58 + f)) (S (64 + f)) (S (70 + f)) b i s0 = some (.inl (h', i + 1))) := by
          intro s0 g0 g1
          unfold fX10_addRefs_b152
          simp (disch := omega) only [nA i i0, Option.bind_some, w1]
          rcases g0 with rfl | rfl
          · simp only [if_true]
            exact ⟨fun z => absurd (g1.mpr z.2) (by decide), fun _ => trivial⟩
          · simp only [if_neg (show ¬ (1 : Int) = 0 by decide)]
            exact ⟨fun _ => trivial, fun z => absurd ⟨a, g1.mp rfl⟩ z⟩
        unfold fX10_addRefs_b86 fX10_addRefs_b116 fX10_addRefs_b151
        simp only [j1, Option.bind_some]
        by_cases c : S (348 + (4 * h (r + 1) i + S (64 + f))) = -1
        · simp only [if_pos c]
          by_cases d : S (70 + f) = -1
          · simp only [if_pos d, if_true, if_neg (show ¬ (1 : Int) = 0 by decide)]
            refine fin 0 (Or.inl rfl) ⟨fun z => absurd z (by decide), fun z => ?_⟩
            unfold badR at z
            rw [if_neg (by omega)] at z
            omega
          · have v2 := (hvi (S (70 + f)) (by omega) (by omega)).1
            simp (disch := omega) only [if_neg d, vA i (S (70 + f)) i0, Option.bind_some]
            by_cases e : S (348 + (4 * h (r + 1) i + S (70 + f))) = -1
            · simp only [if_pos e, if_true, if_neg (show ¬ (1 : Int) = 0 by decide)]
              refine fin 0 (Or.inl rfl) ⟨fun z => absurd z (by decide), fun z => ?_⟩
              unfold badR at z
              rw [if_neg (by omega)] at z
              omega
            · simp only [if_neg e, if_neg (show ¬ (1 : Int) = 0 by decide)]
              refine fin b hb (hb1.trans ?_)
              unfold badR
              rw [if_neg (by omega)]
              exact ⟨fun z => ⟨z, by omega, by omega⟩, fun z => z.1⟩
        · simp only [if_neg c]
          by_cases d : S (70 + f) = -1
          · simp only [if_pos d, if_true]
            have eb : badR S f (h (r + 1) i) ↔ tgS S (h (r + 1) i) f < 0 := by
              unfold badR
              rw [if_pos (by omega)]
            by_cases e : j = -1
            · rw [if_pos e]
              exact fin 1 (Or.inr rfl) ⟨fun _ => eb.mpr (tgneg.mp e), fun _ => rfl⟩
            · rw [if_neg e]
              exact fin 0 (Or.inl rfl) ⟨fun z => absurd z (by decide), fun z => absurd (tgneg.mpr (eb.mp z)) e⟩
          · have v2 := (hvi (S (70 + f)) (by omega) (by omega)).1
            simp (disch := omega) only [if_neg d, vA i (S (70 + f)) i0, Option.bind_some]
            by_cases e : S (348 + (4 * h (r + 1) i + S (70 + f))) = -1
            · simp only [if_pos e, if_neg (show ¬ (0 : Int) = 1 by decide)]
              refine fin b hb (hb1.trans ?_)
              unfold badR
              rw [if_neg (by omega)]
              exact ⟨fun z => ⟨z, by omega, by omega⟩, fun z => z.1⟩
            · simp only [if_neg e, if_true]
              have eb : badR S f (h (r + 1) i) ↔ tgS S (h (r + 1) i) f < 0 := by
                unfold badR
                rw [if_pos (by omega)]
              by_cases e : j = -1
              · rw [if_pos e]
                exact fin 1 (Or.inr rfl) ⟨fun _ => eb.mpr (tgneg.mp e), fun _ => rfl⟩
              · rw [if_neg e]
                exact fin 0 (Or.inl rfl) ⟨fun z => absurd z (by decide), fun z => absurd (tgneg.mpr (eb.mp z)) e⟩
      · simp only [if_neg a]
        exact ⟨fun z => absurd z.1 a, fun _ => trivial⟩
    · unfold fX10_addRefs_s46
      simp only [hD.1, if_neg (Int.lt_irrefl _)]
  unfold fX10_addRefs
  simp only [p0, p5, p7, p8, Option.bind_some]
  by_cases g : S (100 + f) = 1
  · rw [if_pos g]
    exact main 1 (Or.inr rfl) ⟨fun _ => g, fun _ => rfl⟩
  · rw [if_neg g]
    exact main 0 (Or.inl rfl) ⟨fun z => absurd z (by decide), fun z => absurd z g⟩
def soS (s v w : Int) : Prop := if s = 60 then v < w else if s = 61 then v = w else w < v
def badC (S : Int → Int) (k q : Int) : Prop := 0 ≤ S (348 + (4 * q + S (118 + k))) ∧ (S (136 + k) < 0 ∨ 0 ≤ S (348 + (4 * q + S (136 + k)))) ∧ ¬ soS (S (124 + k)) (S (348 + (4 * q + S (118 + k)))) (if S (136 + k) < 0 then S (130 + k) else S (348 + (4 * q + S (136 + k))))
theorem compares_ok {h : hH} {s a b : Int} (hs : s = 60 ∨ s = 61 ∨ s = 62) : ∃ x, fX11_compares h a s b = some x ∧ (x = 0 ∨ x = 1) ∧ (x = 1 ↔ soS s a b) := by
  unfold fX11_compares soS
  rcases hs with rfl | rfl | rfl
  · simp only [if_true]
    by_cases z : a < b
    · rw [if_pos z]; exact ⟨1, rfl, Or.inr rfl, fun _ => z, fun _ => rfl⟩
    · rw [if_neg z]; exact ⟨0, rfl, Or.inl rfl, fun y => absurd y (by decide), fun y => absurd y z⟩
  · simp only [if_true, if_neg (show ¬ (61 : Int) = 60 by decide), if_neg (show ¬ (61 : Int) = 62 by decide)]
    by_cases z : a = b
    · rw [if_pos z]; exact ⟨1, rfl, Or.inr rfl, fun _ => z, fun _ => rfl⟩
    · rw [if_neg z]; exact ⟨0, rfl, Or.inl rfl, fun y => absurd y (by decide), fun y => absurd y z⟩
  · simp only [if_true, if_neg (show ¬ (62 : Int) = 60 by decide), if_neg (show ¬ (62 : Int) = 61 by decide)]
    by_cases z : b < a
    · rw [if_pos z]; exact ⟨1, rfl, Or.inr rfl, fun _ => z, fun _ => rfl⟩
    · rw [if_neg z]; exact ⟨0, rfl, Or.inl rfl, fun y => absurd y (by decide), fun y => absurd y z⟩
theorem addChecks_ok {h : hH} {v r p : Int} {S : Int → Int} {L : List (Int × Int × Int)} (hA : VioAt h v) (hV : VioC h v L) (hc : Ctx4 h r p S) (ha : Apart v r p) (hs : SOk S) (hv : SVal S) (hlen : (L.length : Int) + h r 0 ≤ 880) {k : Int} (k0 : 0 ≤ k) (k1 : k < S 3) :
    ∃ h', fX10_addChecks h v p r k = some h' ∧ VioC h' v (L ++ pickL S 4 k (fun q => S (249 + q) = S (112 + k) ∧ badC S k q)) ∧ Only v h h' := by
  obtain ⟨e0, e1, e2, e3, e4, e5⟩ := hc.2.2.2.2.2.2.2.2.2 k k0 k1
  obtain ⟨c112, c118, c124, c136, c130, c142⟩ := hs.2.2.2.2.2.2.2.2.2 k k0 k1
  have ht := hs.2.2.2.2.1 _ c112.1 c112.2
  unfold fX10_addChecks
  simp (disch := omega) only [checkPart_ok hc.2.2.1 hs k0 k1, Int.add_zero, e0, e1, e2, e3, Option.bind_some]
  refine pick_loop hA hV hc ha hlen 4 k _ (fun i h' i0 i1 hD hc' => ?_) (fun h' hD => ?_)
  · obtain ⟨x0, n0, n1, tA, nA, vA, nR, -⟩ := id hD
    have i1' : i < h' r 0 := by omega
    obtain ⟨m0, m1, m2⟩ := nR i i0 i1
    have hvi := (hv _ m0 m1 m2).2
    have v1 := (hvi (S (118 + k)) (by omega) (by omega)).1
    obtain ⟨-, -, -, -, e4', -⟩ := hc'.2.2.2.2.2.2.2.2.2 k k0 k1
    have fin : ∀ w, w = (if S (136 + k) < 0 then S (130 + k) else S (348 + (4 * h (r + 1) i + S (136 + k)))) → -1 ≤ w → (0 ≤ w ↔ (S (136 + k) < 0 ∨ 0 ≤ S (348 + (4 * h (r + 1) i + S (136 + k))))) → (S (249 + h (r + 1) i) = S (112 + k) ∧ badC S k (h (r + 1) i) → fX10_addChecks_b77 h' v p r k (S (112 + k)) (S (118 + k)) (S (124 + k)) (S (136 + k)) i (S (348 + (4 * h (r + 1) i + S (118 + k)))) w = (fX10_add h' v 4 k (h (r + 1) i)).bind (fun h'' => some (.inl (h'', i + 1)))) ∧ (¬ (S (249 + h (r + 1) i) = S (112 + k) ∧ badC S k (h (r + 1) i)) → fX10_addChecks_b77 h' v p r k (S (112 + k)) (S (118 + k)) (S (124 + k)) (S (136 + k)) i (S (348 + (4 * h (r + 1) i + S (118 + k)))) w = some (.inl (h', i + 1))) := by
      intro w w0 w2 w3
      unfold fX10_addChecks_b77 badC
      rw [← w3, ← w0]
      obtain ⟨x, y0, y1, y2⟩ := compares_ok (h := h') (a := S (348 + (4 * h (r + 1) i + S (118 + k)))) (b := w) c124
      simp (disch := omega) only [tA i i0, nA i i0, y0, Option.bind_some, w1]
      by_cases a : S (249 + h (r + 1) i) = S (112 + k)
      · simp only [if_pos a]
        by_cases b : S (348 + (4 * h (r + 1) i + S (118 + k))) = -1
        · simp only [if_pos b]
          exact ⟨fun z => absurd z.2.1 (by omega), fun _ => trivial⟩
        · simp only [if_neg b]
          by_cases c : w = -1
          · simp only [if_pos c]
            exact ⟨fun z => absurd z.2.2.1 (by omega), fun _ => trivial⟩
          · simp only [if_neg c]
            rcases y1 with rfl | rfl
            · simp only [if_true]
              exact ⟨fun _ => trivial, fun z => absurd ⟨a, by omega, by omega, fun t => absurd (y2.mpr t) (by decide)⟩ z⟩
            · simp only [if_neg (show ¬ (1 : Int) = 0 by decide)]
              exact ⟨fun z => absurd (y2.mp rfl) z.2.2.2, fun _ => trivial⟩
      · simp only [if_neg a]
        exact ⟨fun z => absurd z.1 a, fun _ => trivial⟩
    unfold fX10_addChecks_s35
    simp (disch := omega) only [if_pos i1', vA i _ i0, checkPart_ok hc'.2.2.1 hs k0 k1, Option.bind_some]
    by_cases a : S (136 + k) = -1
    · have := c130 a
      simp only [if_pos a, e4' a]
      exact fin _ (by rw [if_pos (by omega)]) (by omega) (by omega)
    · have v2 := (hvi (S (136 + k)) (by omega) (by omega)).1
      simp (disch := omega) only [if_neg a, vA i (S (136 + k)) i0, Option.bind_some]
      exact fin _ (by rw [if_neg (by omega)]) (by omega) (by omega)
  · unfold fX10_addChecks_s35
    simp only [hD.1, if_neg (Int.lt_irrefl _)]
