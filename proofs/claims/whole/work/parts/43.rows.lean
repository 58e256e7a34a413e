/-! LISTS OF PLACES, LOOPS OVER THEM, ROWS THAT LIE DENSE AND ROWS THAT LIE BY THEIR NUMBERS -/
def rng (i n : Int) : List Int := (List.range (n - i).toNat).map (fun k : Nat => i + (k : Int))
theorem rng_nil {i n : Int} (h : n ≤ i) : rng i n = [] := by
  have : (n - i).toNat = 0 := by omega
  unfold rng
  rw [this]
  rfl
theorem rng_cons {i n : Int} (h : i < n) : rng i n = i :: rng (i + 1) n := by
  obtain ⟨k, hk⟩ : ∃ k, (n - i).toNat = k + 1 := ⟨(n - i).toNat - 1, by omega⟩
  have hk2 : (n - (i + 1)).toNat = k := by omega
  unfold rng
  rw [hk, hk2, List.range_succ_eq_map, List.map_cons, List.map_map]
  congr 1
  · simp
  · apply List.map_congr_left
    intro a _
    simp only [Function.comp_apply, Nat.succ_eq_add_one, Int.natCast_add, Int.natCast_one]
    omega
theorem mem_rng {i n x : Int} : x ∈ rng i n ↔ i ≤ x ∧ x < n := by
  unfold rng
  simp only [List.mem_map, List.mem_range]
  constructor
  · rintro ⟨k, h1, rfl⟩
    omega
  · intro h
    exact ⟨(x - i).toNat, by omega, by omega⟩
theorem rng_sorted {i n : Int} : (rng i n).Pairwise (· < ·) := by
  unfold rng
  rw [List.pairwise_map]
  exact List.pairwise_lt_range.imp (fun h => by omega)
theorem sorted_ext : ∀ (a b : List Int), a.Pairwise (· < ·) → b.Pairwise (· < ·) → (∀ x, x ∈ a ↔ x ∈ b) → a = b
  | [], [], _, _, _ => rfl
  | [], y :: b, _, _, h => absurd ((h y).mpr List.mem_cons_self) List.not_mem_nil
  | x :: a, [], _, _, h => absurd ((h x).mp List.mem_cons_self) List.not_mem_nil
  | x :: a, y :: b, ha, hb, h => by
    rw [List.pairwise_cons] at ha hb
    have hxy : x = y := by
      rcases List.mem_cons.mp ((h x).mp List.mem_cons_self) with e | e
      · exact e
      · rcases List.mem_cons.mp ((h y).mpr List.mem_cons_self) with e2 | e2
        · exact e2.symm
        · have := hb.1 x e
          have := ha.1 y e2
          omega
    subst hxy
    congr 1
    refine sorted_ext a b ha.2 hb.2 (fun z => ?_)
    constructor
    · intro hz
      rcases List.mem_cons.mp ((h z).mp (List.mem_cons_of_mem _ hz)) with e | e
      · have := ha.1 z hz
        omega
      · exact e
    · intro hz
      rcases List.mem_cons.mp ((h z).mpr (List.mem_cons_of_mem _ hz)) with e | e
      · have := hb.1 z hz
        omega
      · exact e
/-- a loop over a list: an account goes on, or all ends -/
def lrun {α ρ : Type} (st : Int → α → α ⊕ ρ) (fin : α → ρ) : List Int → α → ρ
  | [], a => fin a
  | i :: l, a => match st i a with
    | .inl a' => lrun st fin l a'
    | .inr r => r
theorem lrun_congr {α ρ : Type} {st st' : Int → α → α ⊕ ρ} {fin : α → ρ} : ∀ {l : List Int} {a : α}, (∀ i ∈ l, ∀ a, st i a = st' i a) → lrun st fin l a = lrun st' fin l a
  | [], _, _ => rfl
  | i :: l, a, h => by
    unfold lrun
    rw [h i List.mem_cons_self a]
    cases st' i a with
    | inl a' => exact lrun_congr (fun j hj => h j (List.mem_cons_of_mem _ hj))
    | inr r => rfl
theorem lrun_filter {α ρ : Type} {st : Int → α → α ⊕ ρ} {fin : α → ρ} {p : Int → Bool} : ∀ {l : List Int} {a : α}, (∀ i ∈ l, p i = false → ∀ a, st i a = .inl a) → lrun st fin l a = lrun st fin (l.filter p) a
  | [], _, _ => rfl
  | i :: l, a, h => by
    by_cases hp : p i = true
    · rw [List.filter_cons_of_pos hp]
      unfold lrun
      cases st i a with
      | inl a' => exact lrun_filter (fun j hj => h j (List.mem_cons_of_mem _ hj))
      | inr r => rfl
    · rw [List.filter_cons_of_neg hp]
      have := h i List.mem_cons_self (by simpa using hp) a
      show (match st i a with
        | .inl a' => lrun st fin l a'
        | .inr r => r) = _
      rw [this]
      exact lrun_filter (fun j hj => h j (List.mem_cons_of_mem _ hj))
theorem lrun_map {α ρ : Type} {st : Int → α → α ⊕ ρ} {fin : α → ρ} {g : Int → Int} : ∀ {l : List Int} {a : α}, lrun st fin (l.map g) a = lrun (fun i => st (g i)) fin l a
  | [], _ => rfl
  | i :: l, a => by
    show (match st (g i) a with
        | .inl a' => lrun st fin (l.map g) a'
        | .inr r => r) = _
    show _ = (match st (g i) a with
        | .inl a' => lrun (fun i => st (g i)) fin l a'
        | .inr r => r)
    cases st (g i) a with
    | inl a' => exact lrun_map
    | inr r => rfl
theorem lpO_lrun {α ρ σ : Type} {f : σ → Option (σ ⊕ ρ)} (mk : Int → α → σ) (n : Int) (st : Int → α → α ⊕ ρ) (fin : α → ρ) (I : Int → α → Prop)
    (hs : ∀ i a, 0 ≤ i → i < n → I i a → match st i a with
      | .inl a' => f (mk i a) = some (.inl (mk (i + 1) a')) ∧ I (i + 1) a'
      | .inr r => f (mk i a) = some (.inr r)) (he : ∀ a, I n a → f (mk n a) = some (.inr (fin a))) {i : Int} {a : α} (h0 : 0 ≤ i) (hi : i ≤ n) (ha : I i a) : lpO f (mk i a) = some (lrun st fin (rng i n) a) := by
  generalize hd : (n - i).toNat = d
  induction d generalizing i a with
  | zero =>
    have : i = n := by omega
    subst this
    rw [rng_nil (Int.le_refl _)]
    exact lpO_inr (he a ha)
  | succ d ih =>
    have h1 := hs i a h0 (by omega) ha
    rw [rng_cons (by omega)]
    unfold lrun
    cases hst : st i a with
    | inl a' =>
      rw [hst] at h1
      rw [lpO_inl h1.1]
      exact ih (by omega) (by omega) h1.2 (by omega)
    | inr r =>
      rw [hst] at h1
      exact lpO_inr h1
/-- an object Rows and its three rows of numbers -/
def RowsAt (h : hH) (r : Int) : Prop := h r 2 = r + 1 ∧ h r 3 = r + 2 ∧ h r 4 = r + 3 ∧ h (r + 1) (-1) = 40 ∧ h (r + 2) (-1) = 40 ∧ h (r + 3) (-1) = 160
/-- the dense rows r hold what the sparse ones say: al who lives, tb whose, ce what -/
def RowsR (h : hH) (r : Int) (al tb ce : Int → Int) : Prop :=
  0 ≤ h r 0 ∧ h r 0 ≤ 40 ∧ (∀ i, 0 ≤ i → i < h r 0 → 0 ≤ h (r + 1) i ∧ h (r + 1) i < 99 ∧ al (h (r + 1) i) = 1 ∧ h (r + 2) i = tb (h (r + 1) i) ∧ ∀ c, 0 ≤ c → c < 4 → h (r + 3) (4 * i + c) = ce (4 * h (r + 1) i + c)) ∧
  (∀ i j, 0 ≤ i → i < j → j < h r 0 → h (r + 1) i < h (r + 1) j) ∧ (∀ q, 0 ≤ q → q < 99 → al q = 0 ∨ al q = 1) ∧ ∀ q, 0 ≤ q → q < 99 → al q = 1 → ∃ i, 0 ≤ i ∧ i < h r 0 ∧ h (r + 1) i = q
def alv (al : Int → Int) : List Int := (rng 0 99).filter (fun q => al q == 1)
theorem alv_eq {h : hH} {r : Int} {al tb ce : Int → Int} (hR : RowsR h r al tb ce) : alv al = (rng 0 (h r 0)).map (h (r + 1)) := by
  obtain ⟨h1, h2, h3, h4, h5, h6⟩ := hR
  refine sorted_ext _ _ (rng_sorted.filter _) ?_ (fun x => ?_)
  · rw [List.pairwise_map]
    exact rng_sorted.imp_of_mem (fun {a b} ha hb hab => h4 a b (mem_rng.mp ha).1 hab (mem_rng.mp hb).2)
  · unfold alv
    rw [List.mem_filter, mem_rng, List.mem_map]
    constructor
    · rintro ⟨⟨a, b⟩, c⟩
      obtain ⟨i, i0, i1, i2⟩ := h6 x a b (by simpa using c)
      exact ⟨i, mem_rng.mpr ⟨i0, i1⟩, i2⟩
    · rintro ⟨i, hi, rfl⟩
      obtain ⟨i0, i1⟩ := mem_rng.mp hi
      obtain ⟨a, b, c, -⟩ := h3 i i0 i1
      exact ⟨⟨a, b⟩, by simpa using c⟩
/-- a loop over all numbers that passes over those that don't live is a loop over the dense places -/
theorem lrun_rows {α ρ : Type} {h : hH} {r : Int} {al tb ce : Int → Int} (hR : RowsR h r al tb ce) {stM stC : Int → α → α ⊕ ρ} {fin : α → ρ} {a : α} (hskip : ∀ q, 0 ≤ q → q < 99 → al q = 0 → ∀ a, stM q a = .inl a) (hst : ∀ i, 0 ≤ i → i < h r 0 → ∀ a, stM (h (r + 1) i) a = stC i a) : lrun stM fin (rng 0 99) a = lrun stC fin (rng 0 (h r 0)) a := by
  have e1 : lrun stM fin (rng 0 99) a = lrun stM fin (alv al) a := lrun_filter (fun i hi hp a => by
    obtain ⟨i0, i1⟩ := mem_rng.mp hi
    refine hskip i i0 i1 ?_ a
    rcases hR.2.2.2.2.1 i i0 i1 with e | e
    · exact e
    · rw [e] at hp; cases hp)
  rw [e1, alv_eq hR, lrun_map]
  exact lrun_congr (fun i hi a => hst i (mem_rng.mp hi).1 (mem_rng.mp hi).2 a)
section ROWS
variable {h : hH} {r : Int} {al tb ce : Int → Int}
theorem num_inj (hR : RowsR h r al tb ce) {i j : Int} (i0 : 0 ≤ i) (i1 : i < h r 0) (j0 : 0 ≤ j) (j1 : j < h r 0) (e : h (r + 1) i = h (r + 1) j) : i = j := by
  have h4 := hR.2.2.2.1
  rcases Int.lt_trichotomy i j with z | z | z
  · have := h4 i j i0 z j1; omega
  · exact z
  · have := h4 j i j0 z i1; omega
theorem slotOf_ok (hA : RowsAt h r) (hR : RowsR h r al tb ce) (q : Int) : (∃ i, 0 ≤ i ∧ i < h r 0 ∧ h (r + 1) i = q ∧ fX3_slotOf h r q = some i) ∨ ((∀ i, 0 ≤ i → i < h r 0 → h (r + 1) i ≠ q) ∧ fX3_slotOf h r q = some (-1)) := by
  obtain ⟨a2, -, -, b1, -, -⟩ := hA
  have hn := hR.2.1
  unfold fX3_slotOf
  rcases lpO_find (f := fX3_slotOf_s2 h r q) (fun i => i) (h r 0) (fun i => h (r + 1) i = q) (fun i => i) (-1) (fun i i0 i1 => by
    unfold fX3_slotOf_s2
    rw [if_pos i1, a2, at_in i0 (by omega)]
    simp only [Option.bind_some]
    constructor
    · intro z; rw [if_pos z]
    · intro z; rw [if_neg z, w1 (by omega) (by omega)]) (by
    unfold fX3_slotOf_s2
    rw [if_neg (Int.lt_irrefl _)]) (i := 0) (Int.le_refl _) hR.1 with ⟨j, j0, j1, j2, -, j3⟩ | ⟨j1, j2⟩
  · exact Or.inl ⟨j, j0, j1, j2, j3⟩
  · exact Or.inr ⟨fun i i0 i1 => j1 i i0 i1, j2⟩
theorem slotOf_al (hA : RowsAt h r) (hR : RowsR h r al tb ce) (q : Int) : (0 ≤ q ∧ q < 99 ∧ al q = 1 ∧ ∃ i, 0 ≤ i ∧ i < h r 0 ∧ h (r + 1) i = q ∧ fX3_slotOf h r q = some i) ∨ (¬ (0 ≤ q ∧ q < 99 ∧ al q = 1) ∧ fX3_slotOf h r q = some (-1)) := by
  rcases slotOf_ok hA hR q with ⟨i, i0, i1, i2, i3⟩ | ⟨j1, j2⟩
  · obtain ⟨c0, c1, c2, -⟩ := hR.2.2.1 i i0 i1
    rw [i2] at c0 c1 c2
    exact Or.inl ⟨c0, c1, c2, i, i0, i1, i2, i3⟩
  · refine Or.inr ⟨fun z => ?_, j2⟩
    obtain ⟨i, i0, i1, i2⟩ := hR.2.2.2.2.2 q z.1 z.2.1 z.2.2
    exact j1 i i0 i1 i2
theorem tableAt_in (hA : RowsAt h r) {i : Int} (hn : h r 0 ≤ 40) (i0 : 0 ≤ i) (i1 : i < h r 0) : fX3_tableAt h r i = some (h (r + 2) i) := by
  obtain ⟨-, a3, -, -, b2, -⟩ := hA
  unfold fX3_tableAt
  rw [if_neg (by omega), if_pos i1, a3, if_pos (by omega), aget_in i0 (by omega)]
  rfl
theorem tableAt_out {i : Int} (hi : i < 0 ∨ h r 0 ≤ i) : fX3_tableAt h r i = some (-1) := by
  unfold fX3_tableAt
  by_cases z : i < 0
  · rw [if_pos z]
  · rw [if_neg z, if_neg (by omega)]
theorem numberAt_in (hA : RowsAt h r) {i : Int} (hn : h r 0 ≤ 40) (i0 : 0 ≤ i) (i1 : i < h r 0) : fX3_numberAt h r i = some (h (r + 1) i) := by
  obtain ⟨a2, -, -, b1, -, -⟩ := hA
  unfold fX3_numberAt
  rw [if_neg (by omega), if_pos i1, a2, if_pos (by omega), aget_in i0 (by omega)]
  rfl
theorem numberAt_out {i : Int} (hi : i < 0 ∨ h r 0 ≤ i) : fX3_numberAt h r i = some (-1) := by
  unfold fX3_numberAt
  by_cases z : i < 0
  · rw [if_pos z]
  · rw [if_neg z, if_neg (by omega)]
theorem value_in (hA : RowsAt h r) {i c : Int} (i0 : 0 ≤ i) (i1 : i < 40) (c0 : 0 ≤ c) (c1 : c < 4) : fX3_value h r i c = some (h (r + 3) (4 * i + c)) := by
  obtain ⟨-, -, a4, -, -, b3⟩ := hA
  unfold fX3_value
  have e : w32 (w32 (i * 4) + c) = 4 * i + c := by
    rw [w32_id (x := i * 4) (by omega) (by omega), w32_id (by omega) (by omega)]
    omega
  rw [e, if_neg (by omega), a4, if_pos (by omega), aget_in (by omega) (by omega)]
  rfl
theorem countOf_ok (hA : RowsAt h r) (hR : RowsR h r al tb ce) (t : Int) : fX3_countOf h r t = some (lrun (ρ := Int) (fun i c => .inl (if h (r + 2) i = t then c + 1 else c)) id (rng 0 (h r 0)) 0) := by
  obtain ⟨-, a3, -, -, b2, -⟩ := hA
  have hn := hR.2.1
  unfold fX3_countOf
  refine lpO_lrun (f := fX3_countOf_s4 h r t) (fun i c => (c, i)) (h r 0) _ _ (fun i c => 0 ≤ c ∧ c ≤ i) (fun i c i0 i1 hc => ?_) (fun c _ => ?_) (Int.le_refl _) hR.1 ⟨Int.le_refl _, Int.le_refl _⟩
  · dsimp only
    unfold fX3_countOf_s4
    dsimp only
    rw [if_pos i1, a3, at_in i0 (by omega)]
    simp only [Option.bind_some]
    by_cases z : h (r + 2) i = t
    · rw [if_pos z, if_pos z, w1 (by omega) (by omega), w1 (by omega) (by omega)]
      exact ⟨rfl, by omega, by omega⟩
    · rw [if_neg z, if_neg z, w1 (by omega) (by omega)]
      exact ⟨rfl, by omega, by omega⟩
  · unfold fX3_countOf_s4
    dsimp only
    rw [if_neg (Int.lt_irrefl _)]
    rfl
end ROWS
