/-! VIOLATIONS: the model's list -/
def Bt (b : Int) (P : Prop) : Prop := (b = 1 ∧ P) ∨ (b = 0 ∧ ¬ P)
theorem Bt.iff {b : Int} {P Q : Prop} (h : Bt b P) (e : P ↔ Q) : Bt b Q := by
  unfold Bt at h ⊢
  rw [← e]; exact h
theorem lpO_any {f : Int × Int → Option ((Int × Int) ⊕ Int)} (n : Int) (P : Int → Prop) (hs0 : ∀ i, 0 ≤ i → i < n → (P i → f (0, i) = some (.inl (1, i + 1))) ∧ (¬ P i → f (0, i) = some (.inl (0, i + 1)))) (hs1 : ∀ i, 0 ≤ i → i < n → f (1, i) = some (.inl (1, i + 1))) (he : ∀ b, f (b, n) = some (.inr b)) {b0 : Int} {Q : Prop} (hb : Bt b0 Q) (hn : 0 ≤ n) : ∃ b, lpO f (b0, 0) = some b ∧ Bt b (Q ∨ ∃ i, 0 ≤ i ∧ i < n ∧ P i) := by
  have key : ∀ (d : Nat) (i b : Int), (n - i).toNat = d → 0 ≤ i → i ≤ n → Bt b (Q ∨ ∃ j, 0 ≤ j ∧ j < i ∧ P j) → ∃ b', lpO f (b, i) = some b' ∧ Bt b' (Q ∨ ∃ j, 0 ≤ j ∧ j < n ∧ P j) := by
    intro d
    induction d with
    | zero =>
      intro i b hd i0 i1 h
      have : i = n := by omega
      subst this
      exact ⟨b, lpO_inr (he b), h⟩
    | succ d ih =>
      intro i b hd i0 i1 h
      rcases h with ⟨rfl, hp⟩ | ⟨rfl, hp⟩
      · rw [lpO_inl (hs1 i i0 (by omega))]
        refine ih _ _ (by omega) (by omega) (by omega) (Or.inl ⟨rfl, ?_⟩)
        rcases hp with z | ⟨j, j0, j1, j2⟩
        · exact Or.inl z
        · exact Or.inr ⟨j, j0, by omega, j2⟩
      · by_cases z : P i
        · rw [lpO_inl ((hs0 i i0 (by omega)).1 z)]
          exact ih _ _ (by omega) (by omega) (by omega) (Or.inl ⟨rfl, Or.inr ⟨i, i0, by omega, z⟩⟩)
        · rw [lpO_inl ((hs0 i i0 (by omega)).2 z)]
          refine ih _ _ (by omega) (by omega) (by omega) (Or.inr ⟨rfl, fun y => hp ?_⟩)
          rcases y with y | ⟨j, j0, j1, j2⟩
          · exact Or.inl y
          · refine Or.inr ⟨j, j0, ?_, j2⟩
            by_cases e : j = i
            · rw [e] at j2; exact absurd j2 z
            · omega
  exact key _ 0 b0 rfl (Int.le_refl _) hn (hb.iff ⟨Or.inl, fun z => z.elim id (fun ⟨j, j0, j1, _⟩ => by omega)⟩)
theorem sgk {h : hH} (hL : Lay h) {k : Int} (h0 : 0 ≤ k) (h1 : k < 1420) : aget h (h 192 6) k = some (h 194 k) := sg hL k rfl h0 h1
def VioM (h : hH) (L : List (Int × Int × Int)) : Prop := h 192 26 = L.length ∧ ∀ (i : Nat) (x : Int × Int × Int), L[i]? = some x → h 200 i = x.1 ∧ h 201 i = x.2.1 ∧ h 202 i = x.2.2
/-- only the model's list is another -/
def OnlyM (h h' : hH) : Prop := (∀ a, a ≠ 192 → a ≠ 200 → a ≠ 201 → a ≠ 202 → h' a = h a) ∧ ∀ j, j ≠ 26 → h' 192 j = h 192 j
theorem OnlyM.rf {h : hH} : OnlyM h h := ⟨fun _ _ _ _ _ => rfl, fun _ _ => rfl⟩
theorem OnlyM.tr {a b c : hH} (h1 : OnlyM a b) (h2 : OnlyM b c) : OnlyM a c := ⟨fun x p q r s => (h2.1 x p q r s).trans (h1.1 x p q r s), fun j hj => (h2.2 j hj).trans (h1.2 j hj)⟩
theorem violates_ok {h : hH} {L : List (Int × Int × Int)} (hL : Lay h) (hV : VioM h L) (hl : L.length < 960) (a b c : Int) : ∃ h', fX12_violates h 192 a b c = some h' ∧ Lay h' ∧ VioM h' (L ++ [(a, b, c)]) ∧ OnlyM h h' := by
  obtain ⟨v0, v1⟩ := hV
  have e23 := ly_192_23 hL
  have e24 := ly_192_24 hL
  have e25 := ly_192_25 hL
  have l200 := ll_200 hL
  have l201 := ll_201 hL
  have l202 := ll_202 hL
  unfold fX12_violates
  have n26 : 0 ≤ h 192 26 := by omega
  simp (disch := first | omega | (simp (disch := omega) only [hup_off]; omega)) only [e23, aput_in, Option.bind_some, hup_off, hup_ne, e24, e25, pput, w32_id]
  refine ⟨_, rfl, (((hL.upA (by decide) (by omega)).upA (by decide) (by omega)).upA (by decide) (by omega)).upF (by decide), ⟨?_, fun i x hx => ?_⟩, fun y h1 h2 h3 h4 => ?_, fun j hj => ?_⟩
  · rw [hup_at, List.length_append, v0]
    rfl
  · simp (disch := omega) only [hup_off]
    by_cases hi : i < L.length
    · rw [List.getElem?_append_left hi] at hx
      simp (disch := omega) only [hup_off, hup_ne]
      exact v1 i x hx
    · rw [List.getElem?_append_right (by omega)] at hx
      have hz : i - L.length < 1 := (List.getElem?_eq_some_iff.mp hx).1
      have hi2 : i = L.length := by omega
      subst hi2
      rw [Nat.sub_self] at hx
      cases hx
      rw [v0]
      simp (disch := omega) only [hup_at, hup_off]
      exact ⟨trivial, trivial, trivial⟩
  · simp (disch := omega) only [hup_off]
  · simp (disch := omega) only [hup_off, hup_ne]
/-- what holds in the model's loops over violations -/
def KM (h0 : hH) (h : hH) (L : List (Int × Int × Int)) : Prop := Lay h ∧ VioM h L ∧ OnlyM h0 h
theorem KM.s {h0 h : hH} {L : List (Int × Int × Int)} (hK : KM h0 h L) : h 194 = h0 194 := hK.2.2.1 194 (by decide) (by decide) (by decide) (by decide)
theorem KM.add {h0 h : hH} {L : List (Int × Int × Int)} (hK : KM h0 h L) (hl : L.length < 960) (a b c : Int) : ∃ h', fX12_violates h 192 a b c = some h' ∧ KM h0 h' (L ++ [(a, b, c)]) := by
  obtain ⟨h', e1, e2, e3, e4⟩ := violates_ok hK.1 hK.2.1 hl a b c
  exact ⟨h', e1, e2, e3, hK.2.2.tr e4⟩
theorem pick_flat (S : Int → Int) (kind number : Int) (P : Int → Prop) : (rng 0 99).flatMap (fun q => @ite _ (S (150 + q) = 1 ∧ P q) (Classical.propDecidable _) [(kind, number, q)] []) = pickL S kind number P := by
  unfold pickL liv alv
  rw [List.filter_filter]
  generalize rng 0 99 = l
  induction l with
  | nil => rfl
  | cons q l ih =>
    rw [List.flatMap_cons, ih, List.filter_cons]
    by_cases z : S (150 + q) = 1 ∧ P q
    · rw [if_pos z, if_pos (by simp [z.1, z.2])]
      rfl
    · rw [if_neg z, if_neg (by simp; intro a b; exact z ⟨b, a⟩)]
      rfl
theorem flat_snoc {α : Type} {i : Int} (G : Int → List α) (h : 0 ≤ i) : (rng 0 (i + 1)).flatMap G = (rng 0 i).flatMap G ++ G i := by
  rw [rng_snoc h, List.flatMap_append]
  simp
theorem flat_len {α : Type} {k : Nat} {G : Int → List α} : ∀ {l : List Int}, (∀ i ∈ l, (G i).length ≤ k) → (l.flatMap G).length ≤ k * l.length
  | [], _ => by simp
  | i :: l, h => by
    rw [List.flatMap_cons, List.length_append, List.length_cons]
    have h1 := h i List.mem_cons_self
    have h2 := flat_len (l := l) (G := G) (fun j hj => h j (List.mem_cons_of_mem _ hj))
    rw [Nat.mul_add]
    omega
theorem rng_len {i n : Int} : (rng i n).length = (n - i).toNat := by
  unfold rng
  simp
/-- one pass over all numbers, in the model -/
theorem pickM {ρ : Type} {f : hH × Int → Option ((hH × Int) ⊕ ρ)} {h0 h : hH} {L : List (Int × Int × Int)} (kind number : Int) (P : Int → Prop) (fin : hH → ρ) (hK : KM h0 h L) (hl : L.length + 99 ≤ 960)
    (hs : ∀ i h', 0 ≤ i → i < 99 → Lay h' → h' 194 = h0 194 → ((h0 194 (150 + i) = 1 ∧ P i) → f (h', i) = (fX12_violates h' 192 kind number i).bind (fun h'' => some (.inl (h'', i + 1)))) ∧ (¬ (h0 194 (150 + i) = 1 ∧ P i) → f (h', i) = some (.inl (h', i + 1)))) (he : ∀ h', f (h', 99) = some (.inr (fin h'))) :
    ∃ h', lpO f (h, 0) = some (fin h') ∧ KM h0 h' (L ++ pickL (h0 194) kind number P) := by
  have := lpO_inv (f := f) 99 (fun i h' => KM h0 h' (L ++ (rng 0 i).flatMap (fun q => @ite _ (h0 194 (150 + q) = 1 ∧ P q) (Classical.propDecidable _) [(kind, number, q)] []))) (fun r => ∃ h', r = fin h' ∧ KM h0 h' (L ++ pickL (h0 194) kind number P)) (fun i h' i0 i1 hI => ?_) (fun h' hI => ?_) (i := 0) (h := h) (Int.le_refl _) (by decide) (by rw [rng_nil (Int.le_refl _)]; simpa using hK)
  · obtain ⟨r, h1, h', h2, h3⟩ := this
    exact ⟨h', by rw [h1, h2], h3⟩
  · obtain ⟨s1, s2⟩ := hs i h' i0 i1 hI.1 hI.s
    rw [flat_snoc _ i0, ← List.append_assoc]
    by_cases z : h0 194 (150 + i) = 1 ∧ P i
    · rw [if_pos z]
      have hb := flat_len (k := 1) (l := rng 0 i) (G := fun q => @ite _ (h0 194 (150 + q) = 1 ∧ P q) (Classical.propDecidable _) [(kind, number, q)] []) (fun j _ => by
        by_cases y : h0 194 (150 + j) = 1 ∧ P j
        · rw [if_pos y]; exact Nat.le_refl _
        · rw [if_neg y]; exact Nat.zero_le _)
      rw [rng_len] at hb
      obtain ⟨h'', a1, a2⟩ := hI.add (by rw [List.length_append]; omega) kind number i
      exact ⟨h'', by rw [s1 z, a1]; rfl, a2⟩
    · rw [if_neg z, List.append_nil]
      exact ⟨h', s2 z, hI⟩
  · rw [pick_flat] at hI
    exact ⟨_, he h', h', rfl, hI⟩
def nedS (S : Int → Int) (t c : Int) : Prop := S (24 + (4 * t + c)) = 1 ∨ ∃ k, 0 ≤ k ∧ k < S 1 ∧ S (40 + k) = t ∧ (S (46 + k) = c ∨ S (52 + k) = c)
section MV
variable {h : hH}
theorem isNeeded_ok (hL : Lay h) (hs : SOk (h 194)) {t c : Int} (t0 : 0 ≤ t) (t1 : t < 4) (c0 : 0 ≤ c) (c1 : c < 4) : ∃ b, fX12_isNeeded h 192 t c = some b ∧ Bt b (nedS (h 194) t c) := by
  have h1 := hs.2.1
  have main : ∀ s0 Q, Bt s0 Q → ∃ b, fX12_isNeeded_b22 h 192 t c s0 = some b ∧ Bt b (Q ∨ ∃ k, 0 ≤ k ∧ k < h 194 1 ∧ h 194 (40 + k) = t ∧ (h 194 (46 + k) = c ∨ h 194 (52 + k) = c)) := by
    intro s0 Q hQ
    unfold fX12_isNeeded_b22
    refine lpO_any (h 194 1) (fun k => h 194 (40 + k) = t ∧ (h 194 (46 + k) = c ∨ h 194 (52 + k) = c)) (fun k k0 k1 => ?_) (fun k k0 k1 => ?_) (fun b => ?_) hQ h1.1
    · unfold fX12_isNeeded_s26 fX12_isNeeded_b83
      simp (disch := omega) only [sgk hL, Option.bind_some, if_pos k1, w32_id, if_true]
      by_cases a : h 194 (40 + k) = t
      · simp only [if_pos a]
        by_cases b : h 194 (46 + k) = c
        · simp only [if_pos b]
          exact ⟨fun _ => trivial, fun z => absurd ⟨a, Or.inl b⟩ z⟩
        · simp only [if_neg b]
          by_cases d : h 194 (52 + k) = c
          · simp only [if_pos d]
            exact ⟨fun _ => trivial, fun z => absurd ⟨a, Or.inr d⟩ z⟩
          · simp only [if_neg d]
            exact ⟨fun z => absurd z.2 (fun y => y.elim b d), fun _ => trivial⟩
      · simp only [if_neg a]
        exact ⟨fun z => absurd z.1 a, fun _ => trivial⟩
    · unfold fX12_isNeeded_s26 fX12_isNeeded_b83
      simp (disch := omega) only [sgk hL, Option.bind_some, if_pos k1, w32_id, if_neg (show ¬ (1 : Int) = 0 by decide)]
    · unfold fX12_isNeeded_s26
      simp (disch := omega) only [sgk hL, Option.bind_some, if_neg (Int.lt_irrefl _)]
  unfold fX12_isNeeded nedS
  have e9 : 24 + 4 * t + c = 24 + (4 * t + c) := by omega
  simp (disch := omega) only [w32_id, sgk hL, Option.bind_some, e9]
  by_cases a : h 194 (24 + (4 * t + c)) = 1
  · rw [if_pos a]
    exact main 1 _ (Or.inl ⟨rfl, a⟩)
  · rw [if_neg a]
    exact main 0 _ (Or.inr ⟨rfl, a⟩)
theorem isLikeEarlier_ok (hL : Lay h) (hs : SOk (h 194)) {q k : Int} (q0 : 0 ≤ q) (q1 : q < 99) (k0 : 0 ≤ k) (k1 : k < h 194 1) : ∃ b, fX12_isLikeEarlier h 192 q k = some b ∧ Bt b (dblS (h 194) k q) := by
  have h1 := hs.2.1
  obtain ⟨k40, k46, k52⟩ := hs.2.2.2.2.2.2.2.1 k k0 k1
  have hw := hs.2.2.2.2.1 _ k40.1 k40.2
  have main : ∀ v w, ∃ b, fX12_isLikeEarlier_b45 h 192 q k v w = some b ∧ Bt b (0 ≤ v ∧ 0 ≤ w ∧ ∃ j, 0 ≤ j ∧ j < q ∧ h 194 (150 + j) = 1 ∧ h 194 (249 + j) = h 194 (40 + k) ∧ kyS (h 194) j k v w) := by
    intro v w
    unfold fX12_isLikeEarlier_b45
    by_cases a : v < 0 ∨ w < 0
    · refine ⟨0, lpO_inr ?_, Or.inr ⟨rfl, fun z => by omega⟩⟩
      unfold fX12_isLikeEarlier_s53
      by_cases b : (0 : Int) < q
      · rcases Int.lt_or_le v 0 with c | c
        · simp only [if_pos b, if_pos c]
        · simp only [if_pos b, if_neg (show ¬ v < 0 by omega), if_pos (show w < 0 by omega)]
      · simp only [if_neg b]
    · have a1 : ¬ v < 0 := by omega
      have a2 : ¬ w < 0 := by omega
      obtain ⟨b, g1, g2⟩ := lpO_any (f := fX12_isLikeEarlier_s53 h 192 q k v w) q (fun j => h 194 (150 + j) = 1 ∧ h 194 (249 + j) = h 194 (40 + k) ∧ kyS (h 194) j k v w) (fun j j0 j1 => by
        unfold fX12_isLikeEarlier_s53 fX12_isLikeEarlier_b104
        simp (disch := omega) only [sgk hL, Option.bind_some, if_pos j1, if_neg a1, if_neg a2, w32_id, if_true, isRowOf_ok hL, hasKey_ok hL hs]
        by_cases c : h 194 (150 + j) = 1 ∧ h 194 (249 + j) = h 194 (40 + k)
        · simp only [if_pos c, if_neg (show ¬ (1 : Int) = 0 by decide)]
          by_cases d : kyS (h 194) j k v w
          · simp only [if_pos d, if_neg (show ¬ (1 : Int) = 0 by decide)]
            exact ⟨fun _ => trivial, fun z => absurd ⟨c.1, c.2, d⟩ z⟩
          · simp only [if_neg d, if_true]
            exact ⟨fun z => absurd z.2.2 d, fun _ => trivial⟩
        · simp only [if_neg c, if_true]
          exact ⟨fun z => absurd ⟨z.1, z.2.1⟩ c, fun _ => trivial⟩) (fun j j0 j1 => by
        unfold fX12_isLikeEarlier_s53 fX12_isLikeEarlier_b104
        simp (disch := omega) only [if_pos j1, if_neg a1, if_neg a2, w32_id, if_neg (show ¬ (1 : Int) = 0 by decide)]) (fun b => by
        unfold fX12_isLikeEarlier_s53
        simp only [if_neg (Int.lt_irrefl _)]) (b0 := 0) (Q := False) (Or.inr ⟨rfl, id⟩) q0
      exact ⟨b, g1, g2.iff ⟨fun z => ⟨by omega, by omega, z.resolve_left id⟩, fun z => Or.inr z.2.2⟩⟩
  unfold fX12_isLikeEarlier
  simp (disch := omega) only [w32_id, sgk hL, Option.bind_some, cellOf_ok hL]
  unfold dblS
  by_cases a : h 194 (52 + k) < 0
  · simp only [if_pos a]
    obtain ⟨b, g1, g2⟩ := main (h 194 (348 + (4 * q + h 194 (46 + k)))) 0
    exact ⟨b, g1, g2.iff ⟨fun z => ⟨z.1, Or.inl a, z.2.2⟩, fun z => ⟨z.1, by decide, z.2.2⟩⟩⟩
  · simp (disch := omega) only [if_neg a, cellOf_ok hL, Option.bind_some]
    obtain ⟨b, g1, g2⟩ := main (h 194 (348 + (4 * q + h 194 (46 + k)))) (h 194 (348 + (4 * q + h 194 (52 + k))))
    exact ⟨b, g1, g2.iff ⟨fun z => ⟨z.1, Or.inr z.2.1, z.2.2⟩, fun z => ⟨z.1, z.2.1.resolve_left a, z.2.2⟩⟩⟩
theorem isBadRef_ok (hL : Lay h) (hs : SOk (h 194)) {q f : Int} (q0 : 0 ≤ q) (q1 : q < 99) (f0 : 0 ≤ f) (f1 : f < h 194 2) : ∃ b, fX12_isBadRef h 192 q f = some b ∧ Bt b (badR (h 194) f q) := by
  have h2 := hs.2.2.1
  obtain ⟨f58, f64, f70, f76, f82, fk, fsec, -, -, f100, -⟩ := hs.2.2.2.2.2.2.2.2.1 f f0 f1
  have ht := hs.2.2.2.2.1 _ f58.1 f58.2
  have m : ∀ x y A B, Bt x A → Bt y B → ∃ b, fX12_isBadRef_b61 h 192 q f x y = some b ∧ Bt b (((A ∧ B) ∧ tgS (h 194) q f < 0) ∨ (¬ (A ∧ B) ∧ h 194 (100 + f) = 1 ∧ ¬ x = y)) := by
    intro x y A B hx hy
    have e : fX12_isBadRef_b89 h 192 f x y = some (if h 194 (100 + f) = 1 ∧ ¬ x = y then 1 else 0) := by
      unfold fX12_isBadRef_b89
      simp (disch := omega) only [w32_id, sgk hL, Option.bind_some]
      by_cases d : h 194 (100 + f) = 1
      · rw [if_pos d]
        by_cases c : x = y
        · rw [if_pos c, if_neg (fun z => z.2 c)]
        · rw [if_neg c, if_pos ⟨d, c⟩]
      · rw [if_neg d, if_neg (fun z => d z.1)]
    have e2 : ¬ (A ∧ B) → ∃ b, fX12_isBadRef_b89 h 192 f x y = some b ∧ Bt b (((A ∧ B) ∧ tgS (h 194) q f < 0) ∨ (¬ (A ∧ B) ∧ h 194 (100 + f) = 1 ∧ ¬ x = y)) := by
      intro hn
      refine ⟨_, e, ?_⟩
      by_cases d : h 194 (100 + f) = 1 ∧ ¬ x = y
      · rw [if_pos d]; exact Or.inl ⟨rfl, Or.inr ⟨hn, d⟩⟩
      · rw [if_neg d]; exact Or.inr ⟨rfl, fun z => z.elim (fun y => hn y.1) (fun y => d y.2)⟩
    unfold fX12_isBadRef_b61
    rcases hx with ⟨rfl, hA⟩ | ⟨rfl, hA⟩
    · rw [if_neg (by decide)]
      rcases hy with ⟨rfl, hB⟩ | ⟨rfl, hB⟩
      · rw [if_neg (by decide), target_ok hL hs q0 q1 f0 f1]
        simp only [Option.bind_some]
        by_cases z : tgS (h 194) q f < 0
        · rw [if_pos z]; exact ⟨1, rfl, Or.inl ⟨rfl, Or.inl ⟨⟨hA, hB⟩, z⟩⟩⟩
        · rw [if_neg z]; exact ⟨0, rfl, Or.inr ⟨rfl, fun y => y.elim (fun x => z x.2) (fun x => x.1 ⟨hA, hB⟩)⟩⟩
      · rw [if_pos rfl]
        exact e2 (fun z => hB z.2)
    · rw [if_pos rfl]
      exact e2 (fun z => hA z.1)
  have m2 : ∀ x, Bt x (0 ≤ h 194 (348 + (4 * q + h 194 (64 + f)))) → ∃ b, fX12_isBadRef_b22 h 192 q f x = some b ∧ Bt b (badR (h 194) f q) := by
    intro x hx
    unfold fX12_isBadRef_b22 badR
    simp (disch := omega) only [w32_id, sgk hL, Option.bind_some]
    by_cases b : h 194 (70 + f) < 0
    · rw [if_pos b]
      obtain ⟨y, y0, y1⟩ := m x x _ _ hx hx
      refine ⟨y, y0, y1.iff ?_⟩
      by_cases z : 0 ≤ h 194 (348 + (4 * q + h 194 (64 + f)))
      · rw [if_pos ⟨z, Or.inl b⟩]
        exact ⟨fun y => y.elim (fun w => w.2) (fun w => absurd rfl w.2.2), fun y => Or.inl ⟨⟨z, z⟩, y⟩⟩
      · rw [if_neg (fun y => z y.1)]
        exact ⟨fun y => y.elim (fun w => absurd w.1.1 z) (fun w => absurd rfl w.2.2), fun y => by omega⟩
    · simp (disch := omega) only [if_neg b, cellOf_ok hL, Option.bind_some]
      have g : ∀ x', Bt x' (0 ≤ h 194 (348 + (4 * q + h 194 (70 + f)))) → ∃ b, fX12_isBadRef_b61 h 192 q f x x' = some b ∧ Bt b (if 0 ≤ h 194 (348 + (4 * q + h 194 (64 + f))) ∧ (h 194 (70 + f) < 0 ∨ 0 ≤ h 194 (348 + (4 * q + h 194 (70 + f)))) then tgS (h 194) q f < 0 else h 194 (100 + f) = 1 ∧ 0 ≤ h 194 (70 + f) ∧ (0 ≤ h 194 (348 + (4 * q + h 194 (64 + f))) ∨ 0 ≤ h 194 (348 + (4 * q + h 194 (70 + f))))) := by
        intro x' hx'
        obtain ⟨y, y0, y1⟩ := m x x' _ _ hx hx'
        refine ⟨y, y0, y1.iff ?_⟩
        by_cases z : 0 ≤ h 194 (348 + (4 * q + h 194 (64 + f))) ∧ 0 ≤ h 194 (348 + (4 * q + h 194 (70 + f)))
        · rw [if_pos ⟨z.1, Or.inr z.2⟩]
          exact ⟨fun y => y.elim (fun w => w.2) (fun w => absurd z w.1), fun y => Or.inl ⟨z, y⟩⟩
        · rw [if_neg (fun y => z ⟨y.1, y.2.resolve_left b⟩)]
          unfold Bt at hx hx'
          omega
      by_cases c : h 194 (348 + (4 * q + h 194 (70 + f))) < 0
      · rw [if_pos c]
        exact g 0 (Or.inr ⟨rfl, by omega⟩)
      · rw [if_neg c]
        exact g 1 (Or.inl ⟨rfl, by omega⟩)
  unfold fX12_isBadRef
  simp (disch := omega) only [w32_id, sgk hL, Option.bind_some, cellOf_ok hL]
  by_cases a : h 194 (348 + (4 * q + h 194 (64 + f))) < 0
  · rw [if_pos a]
    exact m2 0 (Or.inr ⟨rfl, by omega⟩)
  · rw [if_neg a]
    exact m2 1 (Or.inl ⟨rfl, by omega⟩)
theorem isSo_ok {s a b : Int} : ∃ x, fX12_isSo h s a b = some x ∧ Bt x (soS s a b) := by
  unfold fX12_isSo soS
  by_cases z : s = 60
  · rw [if_pos z, if_pos z]
    by_cases y : a < b
    · rw [if_pos y]; exact ⟨1, rfl, Or.inl ⟨rfl, y⟩⟩
    · rw [if_neg y]; exact ⟨0, rfl, Or.inr ⟨rfl, y⟩⟩
  · rw [if_neg z, if_neg z]
    by_cases w : s = 61
    · rw [if_pos w, if_pos w]
      by_cases y : a = b
      · rw [if_pos y]; exact ⟨1, rfl, Or.inl ⟨rfl, y⟩⟩
      · rw [if_neg y]; exact ⟨0, rfl, Or.inr ⟨rfl, y⟩⟩
    · rw [if_neg w, if_neg w]
      by_cases y : b < a
      · rw [if_pos y]; exact ⟨1, rfl, Or.inl ⟨rfl, y⟩⟩
      · rw [if_neg y]; exact ⟨0, rfl, Or.inr ⟨rfl, y⟩⟩
theorem isBadCheck_ok (hL : Lay h) (hs : SOk (h 194)) {q k : Int} (q0 : 0 ≤ q) (q1 : q < 99) (k0 : 0 ≤ k) (k1 : k < h 194 3) : ∃ b, fX12_isBadCheck h 192 q k = some b ∧ Bt b (badC (h 194) k q) := by
  have h3 := hs.2.2.2.1
  obtain ⟨c112, c118, c124, c136, c130, c142⟩ := hs.2.2.2.2.2.2.2.2.2 k k0 k1
  have ht := hs.2.2.2.2.1 _ c112.1 c112.2
  have fin : ∀ v w, ∃ b, fX12_isBadCheck_b56 h 192 k v w = some b ∧ Bt b (0 ≤ v ∧ 0 ≤ w ∧ ¬ soS (h 194 (124 + k)) v w) := by
    intro v w
    unfold fX12_isBadCheck_b56
    by_cases a : v < 0
    · rw [if_pos a]; exact ⟨0, rfl, Or.inr ⟨rfl, fun z => by omega⟩⟩
    · rw [if_neg a]
      by_cases b : w < 0
      · rw [if_pos b]; exact ⟨0, rfl, Or.inr ⟨rfl, fun z => by omega⟩⟩
      · rw [if_neg b]
        obtain ⟨x, x0, x1⟩ := isSo_ok (h := h) (s := h 194 (124 + k)) (a := v) (b := w)
        simp (disch := omega) only [w32_id, sgk hL, Option.bind_some, x0]
        rcases x1 with ⟨rfl, y⟩ | ⟨rfl, y⟩
        · exact ⟨0, if_neg (by decide), Or.inr ⟨rfl, fun z => z.2.2 y⟩⟩
        · exact ⟨1, if_pos rfl, Or.inl ⟨rfl, by omega, by omega, y⟩⟩
  unfold fX12_isBadCheck badC
  simp (disch := omega) only [w32_id, sgk hL, Option.bind_some, cellOf_ok hL]
  by_cases a : h 194 (136 + k) < 0
  · simp only [if_pos a]
    have := c130 (by omega)
    obtain ⟨b, g1, g2⟩ := fin (h 194 (348 + (4 * q + h 194 (118 + k)))) (h 194 (130 + k))
    exact ⟨b, g1, g2.iff ⟨fun z => ⟨z.1, Or.inl a, z.2.2⟩, fun z => ⟨z.1, this.1, z.2.2⟩⟩⟩
  · simp (disch := omega) only [if_neg a, cellOf_ok hL, Option.bind_some]
    obtain ⟨b, g1, g2⟩ := fin (h 194 (348 + (4 * q + h 194 (118 + k)))) (h 194 (348 + (4 * q + h 194 (136 + k))))
    exact ⟨b, g1, g2.iff ⟨fun z => ⟨z.1, Or.inr z.2.1, z.2.2⟩, fun z => ⟨z.1, z.2.1.resolve_left a, z.2.2⟩⟩⟩
end MV
