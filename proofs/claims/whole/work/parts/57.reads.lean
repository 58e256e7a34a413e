/-! COUNTS, THE k-TH OF A LIST; WHAT IS READ OF ROWS -/
def sumR (N : Int) (g : Int → Int) : Int := ((rng 0 N).map g).sum
theorem sumR_s {N : Int} {g : Int → Int} (h : 0 ≤ N) : sumR (N + 1) g = sumR N g + g N := by
  unfold sumR
  rw [rng_snoc h, List.map_append, List.sum_append]
  simp
theorem sumR_b {g : Int → Int} {M : Int} (hM : 0 ≤ M) (hg : ∀ i, 0 ≤ g i ∧ g i ≤ M) : ∀ d : Nat, 0 ≤ sumR d g ∧ sumR d g ≤ M * d
  | 0 => by unfold sumR; rw [rng_nil (by decide)]; simp
  | d + 1 => by
    have := sumR_b hM hg d
    have e : ((d + 1 : Nat) : Int) = (d : Int) + 1 := rfl
    rw [e, sumR_s (by omega), Int.mul_add]
    have := hg d
    omega
theorem lpO_sum {σ ρ : Type} {f : σ → Option (σ ⊕ ρ)} (mk : Int → Int → σ) (N s0 M : Int) (g : Int → Int) (fin : Int → ρ) (hM : 0 ≤ M) (hg : ∀ i, 0 ≤ g i ∧ g i ≤ M) (hs : ∀ i s, 0 ≤ i → i < N → s0 ≤ s → s ≤ s0 + M * i → f (mk s i) = some (.inl (mk (s + g i) (i + 1)))) (he : ∀ s, s0 ≤ s → s ≤ s0 + M * N → f (mk s N) = some (.inr (fin s))) (hN : 0 ≤ N) : lpO f (mk s0 0) = some (fin (s0 + sumR N g)) := by
  have key : ∀ (d : Nat) (i : Int), (N - i).toNat = d → 0 ≤ i → i ≤ N → lpO f (mk (s0 + sumR i g) i) = some (fin (s0 + sumR N g)) := by
    intro d
    induction d with
    | zero =>
      intro i hd i0 i1
      have : i = N := by omega
      subst this
      have b := sumR_b hM hg i.toNat
      rw [show ((i.toNat : Nat) : Int) = i by omega] at b
      exact lpO_inr (he _ (by omega) (by omega))
    | succ d ih =>
      intro i hd i0 i1
      have b := sumR_b hM hg i.toNat
      rw [show ((i.toNat : Nat) : Int) = i by omega] at b
      rw [lpO_inl (hs i _ i0 (by omega) (by omega) (by omega)), Int.add_assoc, ← sumR_s i0]
      exact ih (i + 1) (by omega) (by omega) (by omega)
  have := key _ 0 rfl (Int.le_refl _) hN
  rwa [show sumR 0 g = 0 from rfl, Int.add_zero] at this
theorem sumR_swap {g : Int → Int → Int} {l1 l2 : List Int} : (l1.map (fun a => (l2.map (g a)).sum)).sum = (l2.map (fun b => (l1.map (fun a => g a b)).sum)).sum := by
  induction l1 with
  | nil =>
    simp
    induction l2 with
    | nil => rfl
    | cons b l ih => simpa using ih
  | cons a l ih =>
    rw [List.map_cons, List.sum_cons, ih]
    clear ih
    induction l2 with
    | nil => rfl
    | cons b l2 ih2 =>
      simp only [List.map_cons, List.sum_cons] at ih2 ⊢
      omega
theorem sum_filter {p : Int → Bool} {g : Int → Int} : ∀ {l : List Int}, (∀ i ∈ l, p i = false → g i = 0) → (l.map g).sum = ((l.filter p).map g).sum
  | [], _ => rfl
  | i :: l, h => by
    have ih := sum_filter (p := p) (g := g) (l := l) (fun j hj => h j (List.mem_cons_of_mem _ hj))
    rw [List.map_cons, List.sum_cons, ih, List.filter_cons]
    by_cases z : p i = true
    · rw [if_pos z, List.map_cons, List.sum_cons]
    · rw [if_neg z, h i List.mem_cons_self (by simpa using z), Int.zero_add]
/-- a sum over all numbers is one over the dense places -/
theorem sum_rows {n : Int} {S N g : Int → Int} (e : liv S = (rng 0 n).map N) (hbit : ∀ q, 0 ≤ q → q < 99 → S (150 + q) = 0 ∨ S (150 + q) = 1) (h0 : ∀ q, 0 ≤ q → q < 99 → S (150 + q) = 0 → g q = 0) : sumR 99 g = sumR n (fun i => g (N i)) := by
  have e1 : sumR 99 g = ((liv S).map g).sum := by
    unfold sumR liv alv
    refine sum_filter (fun q hq hp => ?_)
    obtain ⟨a, b⟩ := mem_rng.mp hq
    rcases hbit q a b with z | z
    · exact h0 q a b z
    · dsimp only at hp
      rw [z] at hp; cases hp
  rw [e1, e, List.map_map]
  rfl
def nthD (l : List Int) (k : Int) : Option Int := if k < 0 then none else l[k.toNat]?
def nthR {ρ : Type} (l : List Int) (k : Int) (hit : Int → ρ) (miss : ρ) : ρ := match nthD l k with
  | some i => hit i
  | none => miss
theorem nthR_nil {ρ : Type} {k : Int} {hit : Int → ρ} {miss : ρ} : nthR [] k hit miss = miss := by
  unfold nthR nthD
  by_cases z : k < 0
  · rw [if_pos z]
  · rw [if_neg z]
    rfl
theorem nthR_z {ρ : Type} {i : Int} {l : List Int} {hit : Int → ρ} {miss : ρ} : nthR (i :: l) 0 hit miss = hit i := rfl
theorem nthR_s {ρ : Type} {i k : Int} {l : List Int} {hit : Int → ρ} {miss : ρ} (hk : k ≠ 0) : nthR (i :: l) k hit miss = nthR l (k - 1) hit miss := by
  unfold nthR nthD
  by_cases z : k < 0
  · rw [if_pos z, if_pos (by omega)]
  · rw [if_neg z, if_neg (by omega)]
    obtain ⟨j, hj⟩ : ∃ j, k.toNat = j + 1 := ⟨k.toNat - 1, by omega⟩
    rw [hj, show (k - 1).toNat = j by omega]
    rfl
theorem nthR_map {ρ : Type} {k : Int} {l : List Int} {g : Int → Int} {hit : Int → ρ} {miss : ρ} : nthR (l.map g) k hit miss = nthR l k (fun i => hit (g i)) miss := by
  unfold nthR nthD
  by_cases z : k < 0
  · rw [if_pos z, if_pos z]
  · rw [if_neg z, if_neg z, List.getElem?_map]
    cases l[k.toNat]? <;> rfl
theorem lpO_nth {σ ρ : Type} {f : σ → Option (σ ⊕ ρ)} (mk : Int → Int → σ) (N k : Int) (p : Int → Bool) (hit : Int → ρ) (miss : ρ) (hs : ∀ i n, 0 ≤ i → i < N → 0 ≤ n → n ≤ i → (k < 0 ∨ n ≤ k) → (p i = true → n = k → f (mk n i) = some (.inr (hit i))) ∧ (p i = true → n ≠ k → f (mk n i) = some (.inl (mk (n + 1) (i + 1)))) ∧ (p i = false → f (mk n i) = some (.inl (mk n (i + 1))))) (he : ∀ n, 0 ≤ n → n ≤ N → f (mk n N) = some (.inr miss)) (hN : 0 ≤ N) : lpO f (mk 0 0) = some (nthR ((rng 0 N).filter p) k hit miss) := by
  have key : ∀ (d : Nat) (i n : Int), (N - i).toNat = d → 0 ≤ i → i ≤ N → 0 ≤ n → n ≤ i → (k < 0 ∨ n ≤ k) → lpO f (mk n i) = some (nthR ((rng i N).filter p) (k - n) hit miss) := by
    intro d
    induction d with
    | zero =>
      intro i n hd i0 i1 n0 n1 hk
      have : i = N := by omega
      subst this
      rw [rng_nil (Int.le_refl _)]
      rw [lpO_inr (he n n0 n1), List.filter_nil, nthR_nil]
    | succ d ih =>
      intro i n hd i0 i1 n0 n1 hk
      obtain ⟨s1, s2, s3⟩ := hs i n i0 (by omega) n0 n1 hk
      rw [rng_cons (show i < N by omega)]
      cases hp : p i with
      | true =>
        rw [List.filter_cons_of_pos hp]
        by_cases z : n = k
        · rw [lpO_inr (s1 hp z), z, Int.sub_self, nthR_z]
        · rw [lpO_inl (s2 hp z), ih (i + 1) (n + 1) (by omega) (by omega) (by omega) (by omega) (by omega) (by omega), nthR_s (by omega)]
          congr 2
          omega
      | false =>
        rw [List.filter_cons_of_neg (by rw [hp]; decide), lpO_inl (s3 hp)]
        exact ih (i + 1) n (by omega) (by omega) (by omega) (by omega) (by omega) hk
  have := key _ 0 0 rfl (Int.le_refl _) hN (Int.le_refl _) (Int.le_refl _) (by omega)
  rwa [Int.sub_zero] at this
/-- those of all numbers that live and are so, and those of the dense places -/
theorem filter_rows {n : Int} {S N : Int → Int} {p : Int → Bool} (e : liv S = (rng 0 n).map N) : (rng 0 99).filter (fun q => (S (150 + q) == 1) && p q) = ((rng 0 n).filter (fun i => p (N i))).map N := by
  have e1 : (rng 0 99).filter (fun q => (S (150 + q) == 1) && p q) = (liv S).filter p := by
    unfold liv alv
    rw [List.filter_filter]
    refine List.filter_congr (fun q _ => ?_)
    exact Bool.and_comm ..
  rw [e1, e, List.filter_map]
  rfl
theorem StI.liv {h : hH} (h2 : StI h) : liv (h 194) = (rng 0 (h 14 0)).map (h 15) := alv_eq h2.1.1
/-- reads: the model lays thrown by, and answers alike -/
theorem StI.rows {h : hH} (h2 : StI h) : RowsS h 14 (h 194) := h2.1.1
theorem rowsAt14 {h : hH} (hL : Lay h) : RowsAt h 14 := (stAt_13 hL).2.2.1
def Th (h : hH) : hH := hup h 192 0 0
theorem th_off {h : hH} {a : Int} (ha : a ≠ 192) : Th h a = h a := hup_off ha
theorem th_ne {h : hH} {b : Int} (hb : b ≠ 0) : Th h 192 b = h 192 b := hup_ne (fun z => hb z.2)
theorem th_lay {h : hH} (hL : Lay h) : Lay (Th h) := hL.upF (by decide)
theorem th_p {h : hH} : pput h 192 0 0 = some (Th h) := rfl
theorem th_fr {h : hH} : Fr (fun a b => a == 192 && b == 0) h (Th h) := Fr.up (by decide)
section READS
variable {h : hH}
theorem RD14 (hL : Lay h) (h1 : SchI h) (h2 : StI h) : RD h 14 (h 194) (h 14 0) (h 15) := (ctx14 hL h1 h2).rd
theorem rowsNow_ok (hL : Lay h) (h2 : StI h) (hL' : Lay h) : fX12_rowsNow h 192 = some (h 14 0) := by
  have hb := h2.2.2.2.2.2.1
  have key := lpO_sum (f := fX12_rowsNow_s4 h 192) (fun s i => (s, i)) 99 0 1 (fun q => if 0 ≤ q ∧ q < 99 ∧ h 194 (150 + q) = 1 then 1 else 0) (fun s => s) (by decide) (fun i => by split <;> omega) (fun i s i0 i1 s0 s1 => by
    unfold fX12_rowsNow_s4
    simp (disch := omega) only [if_pos i1, w32_id, sgk hL, Option.bind_some]
    rcases hb i i0 i1 with z | z
    · rw [if_neg (by omega), z]
      rw [w32_id (by omega) (by omega)]
    · rw [if_pos (by omega), z]
      rw [w32_id (by omega) (by omega)]) (fun s _ _ => by
    unfold fX12_rowsNow_s4
    simp only [if_neg (show ¬ (99 : Int) < 99 by decide)]) (by decide)
  unfold fX12_rowsNow
  rw [key, sum_rows (g := fun q => if 0 ≤ q ∧ q < 99 ∧ h 194 (150 + q) = 1 then 1 else 0) h2.liv hb (fun q q0 q1 z => if_neg (by omega))]
  have n0 := h2.1.1.1
  have hd := h2.1.1.2.2.1
  have : ∀ d : Nat, (d : Int) ≤ h 14 0 → sumR d (fun i => if 0 ≤ h 15 i ∧ h 15 i < 99 ∧ h 194 (150 + h 15 i) = 1 then 1 else 0) = d := by
    intro d
    induction d with
    | zero => intro _; rfl
    | succ d ih =>
      intro hd'
      have e : ((d + 1 : Nat) : Int) = (d : Int) + 1 := rfl
      rw [e, sumR_s (by omega), ih (by omega)]
      obtain ⟨m0, m1, m2, -⟩ := hd d (by omega) (show (d : Int) < h (13 + 1) 0 from (by omega : (d : Int) < h 14 0))
      rw [if_pos ⟨m0, m1, m2⟩]
  have n0' : 0 ≤ h 14 0 := n0
  have := this (h 14 0).toNat (by omega)
  rw [show (((h 14 0).toNat : Nat) : Int) = h 14 0 by omega] at this
  rw [this, Int.zero_add]
theorem th_sch {h : hH} (h1 : SchI h) : SchI (Th h) := by
  obtain ⟨a, b⟩ := h1
  refine ⟨?_, by rw [th_off (by decide)]; exact b⟩
  unfold SchR at a ⊢
  simp only [th_off (h := h) (show (4 : Int) ≠ 192 by decide), th_off (h := h) (show (4 + 2 : Int) ≠ 192 by decide), th_off (h := h) (show (4 + 4 : Int) ≠ 192 by decide), th_off (h := h) (show (4 + 5 : Int) ≠ 192 by decide), th_off (h := h) (show (4 + 6 : Int) ≠ 192 by decide), th_off (h := h) (show (4 + 7 : Int) ≠ 192 by decide), th_off (h := h) (show (4 + 8 : Int) ≠ 192 by decide), th_off (h := h) (show (194 : Int) ≠ 192 by decide)]
  exact a
theorem th_st {h : hH} (h2 : StI h) : StI (Th h) := by
  obtain ⟨a, b⟩ := h2
  unfold StI
  rw [th_off (show (194 : Int) ≠ 192 by decide)]
  exact ⟨StH.sameL (fun x x0 x1 => th_off (by omega)) a, b⟩
theorem rows_ok (hL : Lay h) (h1 : SchI h) (h2 : StI h) (t : Int) : ∃ r, fX11_rows h 0 t = some r ∧ fX12_rows h 192 t = some (r, Th h) := by
  obtain ⟨e0, n0, n1, tA, nA, -⟩ := RD14 hL h1 h2
  have Lt := th_lay hL
  have es : Th h 194 = h 194 := th_off (by decide)
  have hst : ∀ i, 0 ≤ i → i < h 14 0 → h 16 i = h 194 (249 + h 15 i) := fun i i0 i1 => (h2.1.1.2.2.1 i i0 i1).2.2.2.1
  unfold fX11_rows fX12_rows fX11_rows_b15
  rw [ly_0_1 hL, ly_0_2 hL, ly_13_0 hL, h1.1.1.1, th_p]
  simp only [Option.bind_some]
  rw [isTable_ok Lt (by rw [es]; exact h1.2), es]
  simp only [Option.bind_some]
  by_cases a : 0 ≤ t ∧ t < h 194 0
  · simp only [if_neg (show ¬ t < 0 by omega), if_pos a.2, if_pos a, if_neg (show ¬ (1 : Int) = 0 by decide)]
    rw [countOf_ok (rowsAt14 hL) h2.rows t]
    simp only [Option.bind_some]
    refine ⟨_, rfl, ?_⟩
    have key := lpO_lrun (f := fX12_rows_s19 (Th h) 192 t) (fun i c => (c, i)) 99 (fun q c => .inl (if h 194 (150 + q) = 1 ∧ h 194 (249 + q) = t then c + 1 else c)) (fun c => (c, Th h)) (fun i c => 0 ≤ c ∧ c ≤ i) (fun i c i0 i1 hc => by
      dsimp only
      unfold fX12_rows_s19 fX12_rows_b40
      dsimp only
      rw [if_pos i1, isRowOf_ok Lt i0 i1, es]
      simp only [Option.bind_some]
      by_cases z : h 194 (150 + i) = 1 ∧ h 194 (249 + i) = t
      · simp (disch := omega) only [if_pos z, if_neg (show ¬ (1 : Int) = 0 by decide), w32_id]
        exact ⟨trivial, by omega, by omega⟩
      · simp (disch := omega) only [if_neg z, if_true, w32_id, Int.add_zero]
        exact ⟨trivial, by omega, by omega⟩) (fun c _ => by
      unfold fX12_rows_s19
      dsimp only
      rw [if_neg (by decide)]) (i := 0) (a := 0) (Int.le_refl _) (by decide) ⟨Int.le_refl _, Int.le_refl _⟩
    rw [key, lrun_rows h2.rows (stC := fun i c => .inl (if h 16 i = t then c + 1 else c)) (fun q q0 q1 hq a => by rw [if_neg (fun z => by rw [hq] at z; exact absurd z.1 (by decide))]) (fun i i0 i1 a => by
      have m2 := (h2.1.1.2.2.1 i i0 i1).2.2.1
      have := hst i i0 i1
      by_cases z : h 16 i = t
      · rw [if_pos z, if_pos ⟨m2, by rw [← z, this]; rfl⟩]
      · rw [if_neg z, if_neg (fun y => z (by rw [this]; exact y.2))])]
    congr 1
    have fst : ∀ (l : List Int) (c : Int), lrun (ρ := Int × hH) (fun i c => .inl (if h 16 i = t then c + 1 else c)) (fun c => (c, Th h)) l c = (lrun (ρ := Int) (fun i c => .inl (if h 16 i = t then c + 1 else c)) id l c, Th h) := by
      intro l
      induction l with
      | nil => intro c; rfl
      | cons i l ih => intro c; exact ih _
    exact fst _ _
  · rw [if_neg a, if_pos rfl]
    by_cases b : t < 0
    · rw [if_pos b]; exact ⟨-1, rfl, rfl⟩
    · rw [if_neg b, if_neg (by omega)]; exact ⟨-1, rfl, rfl⟩
theorem row_ok (hL : Lay h) (h1 : SchI h) (h2 : StI h) (t k : Int) (hk : k < 2147483648) : ∃ r, fX11_row h 0 t k = some r ∧ fX12_row h 192 t k = some (r, Th h) := by
  obtain ⟨e0, n0, n1, tA, nA, -⟩ := RD14 hL h1 h2
  have Lt := th_lay hL
  have es : Th h 194 = h 194 := th_off (by decide)
  have hst : ∀ i, 0 ≤ i → i < h 14 0 → h 16 i = h 194 (249 + h 15 i) := fun i i0 i1 => (h2.1.1.2.2.1 i i0 i1).2.2.2.1
  unfold fX11_row fX12_row fX11_row_b19
  rw [ly_0_1 hL, ly_0_2 hL, ly_13_0 hL, h1.1.1.1, th_p]
  simp only [Option.bind_some]
  rw [isTable_ok Lt (by rw [es]; exact h1.2), es]
  simp only [Option.bind_some]
  by_cases a : 0 ≤ t ∧ t < h 194 0
  · simp only [if_neg (show ¬ t < 0 by omega), if_pos a.2, if_pos a, if_neg (show ¬ (1 : Int) = 0 by decide)]
    have m := lpO_nth (f := fX12_row_s20 (Th h) 192 t k) (fun n i => (n, i)) 99 k (fun q => (h 194 (150 + q) == 1) && (h 194 (249 + q) == t)) (fun i => (i, Th h)) (-1, Th h) (fun i n i0 i1 n0 n1 hk => by
      unfold fX12_row_s20
      dsimp only
      rw [if_pos i1, isRowOf_ok Lt i0 i1, es]
      simp (disch := omega) only [Option.bind_some, w32_id]
      refine ⟨fun hp hn => ?_, fun hp hn => ?_, fun hp => ?_⟩
      · rw [if_pos (show h 194 (150 + i) = 1 ∧ h 194 (249 + i) = t by simpa using hp), if_neg (by decide), if_pos hn]
      · rw [if_pos (show h 194 (150 + i) = 1 ∧ h 194 (249 + i) = t by simpa using hp), if_neg (by decide), if_neg hn]
      · rw [if_neg (show ¬ (h 194 (150 + i) = 1 ∧ h 194 (249 + i) = t) by simpa using hp), if_pos rfl]) (fun n _ _ => by
      unfold fX12_row_s20
      dsimp only
      rw [if_neg (by decide)]) (by decide)
    rw [m, filter_rows (p := fun q => h 194 (249 + q) == t) h2.liv, nthR_map]
    by_cases b : k < 0
    · rw [if_pos b]
      refine ⟨-1, rfl, ?_⟩
      unfold nthR nthD
      rw [if_pos b]
    · rw [if_neg b]
      have c := lpO_nth (f := fX3_numberOf_s5 h 14 t) (fun n i => (k - n, i)) (h 14 0) k (fun i => h 194 (249 + h 15 i) == t) (fun i => h 15 i) (-1) (fun i n i0 i1 n0' n1' hk' => by
        unfold fX3_numberOf_s5
        dsimp only
        rw [if_pos i1, ly_14_3 hL, at_in i0 (by rw [ll_16 hL]; omega), hst i i0 i1]
        simp only [Option.bind_some]
        refine ⟨fun hp hn => ?_, fun hp hn => ?_, fun hp => ?_⟩
        · rw [if_pos (show h 194 (249 + h 15 i) = t by simpa using hp), if_pos (by omega), ly_14_2 hL, at_in i0 (by rw [ll_15 hL]; omega)]
          rfl
        · rw [if_pos (show h 194 (249 + h 15 i) = t by simpa using hp), if_neg (by omega)]
          rw [w32_id (by omega) (by omega), w32_id (by omega) (by omega), show k - n + -1 = k - (n + 1) by omega]
        · rw [if_neg (show ¬ h 194 (249 + h 15 i) = t by simpa using hp), w32_id (by omega) (by omega)]) (fun n _ _ => by
        unfold fX3_numberOf_s5
        dsimp only
        rw [if_neg (Int.lt_irrefl _)]) n0
      rw [Int.sub_zero] at c
      unfold fX3_numberOf
      rw [c]
      refine ⟨_, rfl, ?_⟩
      congr 1
      unfold nthR
      cases nthD ((rng 0 (h 14 0)).filter (fun i => h 194 (249 + h 15 i) == t)) k <;> rfl
  · rw [if_neg a, if_pos rfl]
    by_cases b : t < 0
    · rw [if_pos b]; exact ⟨-1, rfl, rfl⟩
    · rw [if_neg b, if_neg (by omega)]; exact ⟨-1, rfl, rfl⟩
end READS
