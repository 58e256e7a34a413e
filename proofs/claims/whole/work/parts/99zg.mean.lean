/-! mean -/
def gG9 (a b : Int) : Int := ((Nat.gcd a.toNat b.toNat : Nat) : Int)
theorem gG9_0 {a : Int} (ha : 0 ≤ a) : gG9 a 0 = a := by
  unfold gG9
  rw [show (0 : Int).toNat = 0 from rfl, Nat.gcd_zero_right]
  omega
theorem gG9_s {a b : Int} (ha : 0 ≤ a) (hb : 0 < b) : gG9 a b = gG9 b (a % b) := by
  unfold gG9
  rw [Int.toNat_emod ha (by omega), Nat.gcd_comm, Nat.gcd_rec, Nat.gcd_comm]
theorem gG9_c {a b : Int} : gG9 a b = gG9 b a := by
  unfold gG9
  rw [Nat.gcd_comm]
theorem gG9_1 {a b : Int} (hb : 0 < b) : 1 ≤ gG9 a b := by
  unfold gG9
  have := Nat.gcd_pos_of_pos_right (m := a.toNat) (n := b.toNat) (by omega)
  omega
section MEAN
variable {h : hH}
theorem comD_ok : ∀ (d : Nat) (a b i : Int), b ≤ d → (0 ≤ a ∧ a < 2147483648) → 0 ≤ b → 0 ≤ i → i + b ≤ 60 → lpO (fX11_commonDivisor_s7 h) (a, b, i) = some (gG9 a b) := by
  intro d
  have fin : ∀ a i : Int, 0 ≤ a → 0 ≤ i → i ≤ 60 → lpO (fX11_commonDivisor_s7 h) (a, 0, i) = some (gG9 a 0) := fun a i a0 i0 i1 => by
    refine lpO_inr ?_
    unfold fX11_commonDivisor_s7
    dsimp only
    rw [if_pos (show i < 64 by omega), if_pos rfl, gG9_0 a0]
  induction d with
  | zero =>
    intro a b i hb ha b0 i0 hi
    have : b = 0 := by omega
    subst this
    exact fin a i ha.1 i0 (by omega)
  | succ d ih =>
    intro a b i hb ha b0 i0 hi
    by_cases z : b = 0
    · subst z
      exact fin a i ha.1 i0 (by omega)
    · have e := (irm_ok ha.1 ha.2 (show 1 ≤ b by omega) (by omega)).1
      have m0 := Int.emod_nonneg a z
      have m1 := Int.emod_lt_of_pos a (show 0 < b by omega)
      rw [lpO_inl (q' := (b, a % b, i + 1)) ?_, gG9_s ha.1 (by omega)]
      · exact ih b (a % b) (i + 1) (by omega) (by omega) m0 (by omega) (by omega)
      · unfold fX11_commonDivisor_s7 gdz
        dsimp only
        rw [if_pos (show i < 64 by omega), if_neg z, if_neg z, e, w1 (by omega) (by omega)]
        rfl
theorem meanM_ok {what s n : Int} : ∀ (d : Nat) (a b : Int), b ≤ d → (0 ≤ a ∧ a < 2147483648) → (0 ≤ b ∧ b < 2147483648) → gG9 a b ≠ 0 → lpO (fX12_mean_s105 h what s n) (a, b) = some (idvD (if what = 0 then s else n) (gG9 a b), h) := by
  intro d
  have fin : ∀ a : Int, 0 ≤ a → gG9 a 0 ≠ 0 → lpO (fX12_mean_s105 h what s n) (a, 0) = some (idvD (if what = 0 then s else n) (gG9 a 0), h) := fun a a0 hg => by
    rw [gG9_0 a0] at hg
    refine lpO_inr ?_
    unfold fX12_mean_s105 fX12_mean_b139 gdz
    dsimp only
    rw [if_pos rfl, if_neg hg, gG9_0 a0]
    by_cases z : what = 0
    · rw [if_pos z, if_pos z]; rfl
    · rw [if_neg z, if_neg z]; rfl
  induction d with
  | zero =>
    intro a b hb ha hb0 hg
    have : b = 0 := by omega
    subst this
    exact fin a ha.1 hg
  | succ d ih =>
    intro a b hb ha hb0 hg
    by_cases z : b = 0
    · subst z
      exact fin a ha.1 hg
    · have e := (irm_ok ha.1 ha.2 (show 1 ≤ b by omega) hb0.2).1
      have m0 := Int.emod_nonneg a z
      have m1 := Int.emod_lt_of_pos a (show 0 < b by omega)
      rw [gG9_s ha.1 (by omega)] at hg
      rw [lpO_inl (q' := (b, a % b)) ?_, gG9_s ha.1 (by omega)]
      · exact ih b (a % b) (by omega) hb0 (by omega) hg
      · unfold fX12_mean_s105 gdz
        dsimp only
        rw [if_neg z, if_neg z, e]
        rfl
/-- what the rows of a table hold in a column: the sum, how many -/
def smN (h : hH) (t c n i : Int) : Int := if h 16 i = t then if h 17 (4 * i + c) = -1 then n else n + 1 else n
def smS (h : hH) (t c s i : Int) : Int := if h 16 i = t then if h 17 (4 * i + c) = -1 then s else s + h 17 (4 * i + c) else s
def smP (h : hH) (t c : Int) (a : Int × Int) (i : Int) : Int × Int := if h 16 i = t then if h 17 (4 * i + c) = -1 then a else (a.1 + h 17 (4 * i + c), a.2 + 1) else a
theorem smP_e {t c : Int} : ∀ (l : List Int) (a : Int × Int), l.foldl (smP h t c) a = (l.foldl (smS h t c) a.1, l.foldl (smN h t c) a.2)
  | [], _ => rfl
  | i :: l, a => by
    rw [List.foldl_cons, smP_e l, List.foldl_cons, List.foldl_cons]
    unfold smP smS smN
    split
    · split <;> rfl
    · rfl
theorem smN_b {t c : Int} : ∀ (l : List Int) (n : Int), n ≤ l.foldl (smN h t c) n ∧ l.foldl (smN h t c) n ≤ n + l.length
  | [], n => ⟨Int.le_refl _, by simp⟩
  | i :: l, n => by
    have ih := smN_b (t := t) (c := c) l (smN h t c n i)
    rw [List.foldl_cons, List.length_cons]
    have : n ≤ smN h t c n i ∧ smN h t c n i ≤ n + 1 := by
      unfold smN
      split
      · split <;> omega
      · omega
    omega
theorem smS_b {t c : Int} : ∀ (l : List Int) (s : Int), (∀ i ∈ l, -1 ≤ h 17 (4 * i + c) ∧ h 17 (4 * i + c) ≤ 99) → s ≤ l.foldl (smS h t c) s ∧ l.foldl (smS h t c) s ≤ s + 99 * l.length
  | [], s, _ => ⟨Int.le_refl _, by simp⟩
  | i :: l, s, hv => by
    have ih := smS_b (t := t) (c := c) l (smS h t c s i) (fun j hj => hv j (List.mem_cons_of_mem _ hj))
    have hi := hv i List.mem_cons_self
    rw [List.foldl_cons, List.length_cons]
    have : s ≤ smS h t c s i ∧ smS h t c s i ≤ s + 99 := by
      unfold smS
      split
      · split <;> omega
      · omega
    omega
theorem lrun_inl {α ρ : Type} {g : α → Int → α} {fin : α → ρ} : ∀ (l : List Int) (a : α), lrun (fun i a => .inl (g a i)) fin l a = fin (l.foldl g a)
  | [], _ => rfl
  | i :: l, a => lrun_inl l (g a i)
noncomputable def meanC (h : hH) (t c what : Int) : Option (Option Int) := (fX4_has h 4 t c).bind fun b => (if b = 0 then some 0 else fX3_countIn h 14 t c).bind fun n => if n = 0 then some none else if what < 0 then some none else if 1 < what then some none else (fX3_sumIn h 14 t c).bind fun s => (fX11_commonDivisor h s n).bind fun g => if g < 1 then some (some (if what = 0 then s else n)) else (gdz g).bind fun _ => some (some (idvD (if what = 0 then s else n) g))
theorem vals {h : hH} (h2 : StI h) {i c : Int} (i0 : 0 ≤ i) (i1 : i < h 14 0) (c0 : 0 ≤ c) (c1 : c < 4) : (0 ≤ h 15 i ∧ h 15 i < 99) ∧ h 194 (150 + h 15 i) = 1 ∧ h 16 i = h 194 (249 + h 15 i) ∧ h 17 (4 * i + c) = h 194 (348 + (4 * h 15 i + c)) ∧ -1 ≤ h 17 (4 * i + c) ∧ h 17 (4 * i + c) ≤ 99 := by
  obtain ⟨m0, m1, m2, m3, m4⟩ := h2.1.1.2.2.1 i i0 i1
  have e4 : h 17 (4 * i + c) = h 194 (348 + (4 * h 15 i + c)) := m4 c c0 c1
  have sv := (h2.2.2.2.1 (h 15 i) m0 m1 m2).2 c c0 c1
  exact ⟨⟨m0, m1⟩, m2, m3, e4, by rw [e4]; exact sv.1.1, by rw [e4]; exact sv.1.2⟩
theorem countIn_ok (hL : Lay h) (h2 : StI h) {t c : Int} (c0 : 0 ≤ c) (c1 : c < 4) : fX3_countIn h 14 t c = some ((rng 0 (h 14 0)).foldl (smN h t c) 0) := by
  have hn : h 14 0 ≤ 40 := h2.1.1.2.1
  have hn0 : 0 ≤ h 14 0 := h2.1.1.1
  have q := lpO_lrun (f := fX3_countIn_s5 h 14 t c) (fun i n => (n, i)) (h 14 0) (fun i n => .inl (smN h t c n i)) (fun n => n) (fun i n => 0 ≤ n ∧ n ≤ i) (fun i n i0 i1 hb => by
    dsimp only
    have hv := vals h2 i0 i1 c0 c1
    refine ⟨?_, by unfold smN; split; split <;> omega; omega⟩
    unfold fX3_countIn_s5 smN
    dsimp only
    rw [if_pos i1, ly_14_3 hL, at_in i0 (by rw [ll_16 hL]; omega), value_in (rowsAt14 hL) i0 (by omega) c0 c1, w1 (by omega) (by omega), w1 (by omega) (by omega)]
    simp only [Option.bind_some]
    rw [show h (14 + 3) (4 * i + c) = h 17 (4 * i + c) from rfl]
    by_cases z : h 16 i = t
    · rw [if_pos z, if_pos z]
      by_cases y : h 17 (4 * i + c) = -1
      · rw [if_pos y, if_pos y]
      · rw [if_neg y, if_neg y]
    · rw [if_neg z, if_neg z]) (fun n _ => by
    unfold fX3_countIn_s5
    dsimp only
    rw [if_neg (Int.lt_irrefl _)]) (i := 0) (a := 0) (Int.le_refl _) hn0 ⟨Int.le_refl _, Int.le_refl _⟩
  unfold fX3_countIn
  rw [q, lrun_inl]
theorem sumIn_ok (hL : Lay h) (h2 : StI h) {t c : Int} (c0 : 0 ≤ c) (c1 : c < 4) : fX3_sumIn h 14 t c = some ((rng 0 (h 14 0)).foldl (smS h t c) 0) := by
  have hn : h 14 0 ≤ 40 := h2.1.1.2.1
  have hn0 : 0 ≤ h 14 0 := h2.1.1.1
  have q := lpO_lrun (f := fX3_sumIn_s5 h 14 t c) (fun i n => (n, i)) (h 14 0) (fun i n => .inl (smS h t c n i)) (fun n => n) (fun i n => 0 ≤ n ∧ n ≤ 99 * i) (fun i n i0 i1 hb => by
    dsimp only
    have hv := vals h2 i0 i1 c0 c1
    refine ⟨?_, by unfold smS; split; split <;> omega; omega⟩
    unfold fX3_sumIn_s5 smS
    dsimp only
    rw [if_pos i1, ly_14_3 hL, at_in i0 (by rw [ll_16 hL]; omega), value_in (rowsAt14 hL) i0 (by omega) c0 c1, w1 (by omega) (by omega)]
    simp only [Option.bind_some]
    rw [show h (14 + 3) (4 * i + c) = h 17 (4 * i + c) from rfl, w32_id (x := n + h 17 (4 * i + c)) (by omega) (by omega)]
    by_cases z : h 16 i = t
    · rw [if_pos z, if_pos z]
      by_cases y : h 17 (4 * i + c) = -1
      · rw [if_pos y, if_pos y]
      · rw [if_neg y, if_neg y]
    · rw [if_neg z, if_neg z]) (fun n _ => by
    unfold fX3_sumIn_s5
    dsimp only
    rw [if_neg (Int.lt_irrefl _)]) (i := 0) (a := 0) (Int.le_refl _) hn0 ⟨Int.le_refl _, Int.le_refl _⟩
  unfold fX3_sumIn
  rw [q, lrun_inl]
def mnO (what : Int) (a : Int × Int) : Option Int := if a.2 = 0 then none else if 0 ≤ what ∧ what ≤ 1 then some (idvD (if what = 0 then a.1 else a.2) (gG9 a.2 a.1)) else none
theorem b69_ok {what s n : Int} (s0 : 0 ≤ s ∧ s < 100000) (n0 : 0 ≤ n ∧ n < 100000) : fX12_mean_b69 h 192 what s n = some (ans (mnO what (s, n)), hup h 192 0 (trn (mnO what (s, n)))) := by
  have bad : fX12_mean_b84 h what s n 192 = some (0, hup h 192 0 1) := by
    unfold fX12_mean_b84 fX12_mean_b89
    rw [thr1]
    rfl
  unfold fX12_mean_b69 mnO
  dsimp only
  by_cases z : n = 0
  · rw [if_pos z, if_pos z, bad]
    rfl
  · rw [if_neg z, if_neg z, isIn_ok]
    simp only [Option.bind_some]
    by_cases y : 0 ≤ what ∧ what ≤ 1
    · rw [if_pos y, if_pos y, if_neg (by decide)]
      unfold fX12_mean_b89
      rw [thr0]
      simp only [Option.bind_some]
      rw [if_pos trivial, meanM_ok s.toNat n s (by omega) (by omega) (by omega) (by
        rw [gG9_c]
        have := gG9_1 (a := s) (b := n) (by omega)
        omega)]
      rfl
    · rw [if_neg y, if_neg y, if_pos rfl, bad]
      rfl
theorem mean_ok (hL : Lay h) (h1 : SchI h) (h2 : StI h) (t c what : Int) : ∃ o, meanC h t c what = some o ∧ fX12_mean h 192 t c what = some (ans o, hup h 192 0 (trn o)) := by
  have hn : h 14 0 ≤ 40 := h2.1.1.2.1
  have hn0 : 0 ≤ h 14 0 := h2.1.1.1
  unfold meanC
  rw [has_ok (schAt_4 hL) h1.1 h1.2]
  simp only [Option.bind_some]
  by_cases z : (0 ≤ t ∧ t < h 194 0) ∧ 0 ≤ c ∧ c < h 194 (4 + t)
  · rw [if_pos z, if_neg (by decide)]
    have T4 := h1.2.1
    have w4 := h1.2.2.2.2.2.1 t z.1.1 z.1.2
    have c0 : 0 ≤ c := z.2.1
    have c1 : c < 4 := by omega
    have q := lpO_lrun (f := fX12_mean_s9 h 192 t c what) (fun i (a : Int × Int) => (a.1, a.2, i)) 99 (fun q a => .inl (if h 194 (150 + q) = 1 ∧ h 194 (249 + q) = t then if h 194 (348 + (4 * q + c)) < 0 then a else (a.1 + h 194 (348 + (4 * q + c)), a.2 + 1) else a)) (fun a => (ans (mnO what a), hup h 192 0 (trn (mnO what a)))) (fun i a => (0 ≤ a.1 ∧ a.1 ≤ 99 * i) ∧ 0 ≤ a.2 ∧ a.2 ≤ i) (fun i a i0 i1 hb => by
      dsimp only
      unfold fX12_mean_s9
      dsimp only
      rw [if_pos i1, isCol_ok hL h1.2, if_pos z, isRowOf_ok hL i0 i1, cellOf_ok hL i0 i1 c0 c1, w1 (by omega) (by omega), w1 (by omega) (by omega)]
      simp only [Option.bind_some]
      rw [if_neg (by decide)]
      by_cases y : h 194 (150 + i) = 1 ∧ h 194 (249 + i) = t
      · have sv := (h2.2.2.2.1 i i0 i1 y.1).2 c c0 c1
        rw [if_pos y, if_pos y, if_neg (by decide)]
        by_cases x : h 194 (348 + (4 * i + c)) < 0
        · rw [if_pos x, if_pos x]
          exact ⟨rfl, by omega, by omega⟩
        · rw [if_neg x, if_neg x, w32_id (by omega) (by omega)]
          exact ⟨rfl, ⟨by dsimp only; omega, by dsimp only; omega⟩, by dsimp only; omega, by dsimp only; omega⟩
      · rw [if_neg y, if_neg y, if_pos rfl]
        exact ⟨rfl, by omega, by omega⟩) (fun a ha => by
      unfold fX12_mean_s9
      dsimp only
      rw [if_neg (by decide), b69_ok (by omega) (by omega)]
      rfl) (i := 0) (a := (0, 0)) (Int.le_refl _) (by decide) ⟨by decide, by decide⟩
    unfold fX12_mean
    rw [q, lrun_rows h2.rows (stC := fun i a => .inl (smP h t c a i)) (fun q q0 q1 hq a => by rw [if_neg (fun w => by rw [hq] at w; exact absurd w.1 (by decide))]) (fun i i0 i1 a => by
      obtain ⟨v1, v2, v3, v4, v5, v6⟩ := vals h2 (c := c) i0 i1 c0 c1
      congr 1
      show (if h 194 (150 + h 15 i) = 1 ∧ h 194 (249 + h 15 i) = t then if h 194 (348 + (4 * h 15 i + c)) < 0 then a else (a.1 + h 194 (348 + (4 * h 15 i + c)), a.2 + 1) else a) = smP h t c a i
      unfold smP
      rw [← v3, ← v4]
      by_cases y : h 16 i = t
      · rw [if_pos ⟨v2, y⟩, if_pos y]
        by_cases x : h 17 (4 * i + c) = -1
        · rw [if_pos (by omega), if_pos x]
        · rw [if_neg (by omega), if_neg x]
      · rw [if_neg (fun w => y w.2), if_neg y]), lrun_inl, smP_e, countIn_ok hL h2 c0 c1]
    have bN := smN_b (h := h) (t := t) (c := c) (rng 0 (h 14 0)) 0
    have bS := smS_b (h := h) (t := t) (c := c) (rng 0 (h 14 0)) 0 (fun i hi => by
      have := mem_rng.mp hi
      have hv := vals h2 (c := c) this.1 this.2 c0 c1
      exact hv.2.2.2.2)
    rw [rng_len] at bN bS
    simp only [Option.bind_some]
    rw [sumIn_ok hL h2 c0 c1]
    simp only [Option.bind_some]
    generalize List.foldl (smN h t c) 0 (rng 0 (h 14 0)) = n at bN
    generalize List.foldl (smS h t c) 0 (rng 0 (h 14 0)) = s at bS
    refine ⟨mnO what (s, n), ?_, rfl⟩
    unfold mnO
    dsimp only
    by_cases y : n = 0
    · rw [if_pos y, if_pos y]
    · rw [if_neg y, if_neg y]
      by_cases x : 0 ≤ what ∧ what ≤ 1
      · rw [if_neg (show ¬ what < 0 by omega), if_neg (show ¬ 1 < what by omega), if_pos x]
        unfold fX11_commonDivisor gdz
        rw [comD_ok 40 s n 0 (by omega) (by omega) (by omega) (by decide) (by omega)]
        simp only [Option.bind_some]
        have g1 := gG9_1 (a := s) (b := n) (by omega)
        rw [if_neg (by omega), if_neg (by omega), gG9_c (a := n)]
        rfl
      · rw [if_neg x]
        by_cases w : what < 0
        · rw [if_pos w]
        · rw [if_neg w, if_pos (show 1 < what by omega)]
  · rw [if_neg z, if_pos rfl]
    simp only [Option.bind_some]
    rw [if_pos trivial]
    refine ⟨none, rfl, ?_⟩
    unfold fX12_mean
    refine lpO_inr ?_
    unfold fX12_mean_s9
    dsimp only
    rw [if_pos (by decide), isCol_ok hL h1.2, if_neg z]
    simp only [Option.bind_some]
    rw [if_pos trivial, b69_ok (by decide) (by decide)]
    rfl
end MEAN
