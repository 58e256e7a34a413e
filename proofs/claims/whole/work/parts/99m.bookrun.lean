/-! A BOOK IS JUDGED, on two heaps -/
theorem R2.g {c g g' : hH} (h : R2 c g) (Lg : Lay g') (eg : g' 194 = g 194) : R2 c g' := h.of h.1 Lg (fun _ _ _ => rfl) eg
theorem R2.c {c g c' : hH} (h : R2 c g) (Lc : Lay c') (ec : ∀ a, 4 ≤ a → a < 22 → c' a = c a) : R2 c' g := h.of Lc h.2.1 ec rfl
theorem rowsNow2 {c g : hH} (hR : R2 c g) : fX12_rowsNow g 192 = some (c 14 0) := by
  obtain ⟨hL1, hL, h1, hs, hH, hO⟩ := hR
  have hb := hO.2.2.2.2.1
  have hliv : liv (g 194) = (rng 0 (c 14 0)).map (c 15) := alv_eq hH.1
  have key := lpO_sum (f := fX12_rowsNow_s4 g 192) (fun s i => (s, i)) 99 0 1 (fun q => if 0 ≤ q ∧ q < 99 ∧ g 194 (150 + q) = 1 then 1 else 0) (fun s => s) (by decide) (fun i => by split <;> omega) (fun i s i0 i1 s0 s1 => by
    unfold fX12_rowsNow_s4
    simp (disch := omega) only [if_pos i1, w32_id, sgk hL, Option.bind_some]
    rcases hb i i0 i1 with z | z
    · rw [if_neg (by omega), z]
      rw [w32_id (by omega) (by omega)]
    · rw [if_pos (by omega), z]
      rw [w32_id (by omega) (by omega)]) (fun s _ _ => by
    unfold fX12_rowsNow_s4
    simp only [if_neg (show ¬ (99 : Int) < 99 by decide)]) (by decide)
  unfold fX12_rowsNow
  rw [key, sum_rows (g := fun q => if 0 ≤ q ∧ q < 99 ∧ g 194 (150 + q) = 1 then 1 else 0) hliv hb (fun q q0 q1 z => if_neg (by omega))]
  have n0 := hH.1.1
  have hd := hH.1.2.2.1
  have : ∀ d : Nat, (d : Int) ≤ c 14 0 → sumR d (fun i => if 0 ≤ c 15 i ∧ c 15 i < 99 ∧ g 194 (150 + c 15 i) = 1 then 1 else 0) = d := by
    intro d
    induction d with
    | zero => intro _; rfl
    | succ d ih =>
      intro hd'
      have e : ((d + 1 : Nat) : Int) = (d : Int) + 1 := rfl
      rw [e, sumR_s (by omega), ih (by omega)]
      obtain ⟨m0, m1, m2, -⟩ := hd d (by omega) (show (d : Int) < c (13 + 1) 0 from (by omega : (d : Int) < c 14 0))
      rw [if_pos ⟨m0, m1, m2⟩]
  have n0' : 0 ≤ c 14 0 := n0
  have := this (c 14 0).toNat (by omega)
  rw [show (((c 14 0).toNat : Nat) : Int) = c 14 0 by omega] at this
  rw [this, Int.zero_add]
def bkF (a b : Int) : Bool := rlM a b || (a == 217 && decide (0 ≤ b))
theorem bkF_row {g g' : hH} (hf : Fr bkF g g') {a : Int} (ha : a < 192 ∨ a = 193 ∨ (194 < a ∧ a < 200) ∨ (206 < a ∧ a ≠ 217)) : g' a = g a := hf.row a (fun b => by unfold bkF rlM jmF jmC; simp; omega)
theorem rl_bk {g g' : hH} (h : Fr rlM g g') : Fr bkF g g' := h.mono (fun a b z => by unfold bkF; rw [z]; rfl)
theorem put217 {g : hH} (hL : Lay g) {i v : Int} (i0 : 0 ≤ i) (i1 : i < 4) : aput g (g 192 53) i v = some (hup g 217 i v) := by
  rw [ly_192_53 hL]
  exact aput_in i0 (by rw [ll_217 hL]; exact i1)
theorem get217 {g : hH} (hL : Lay g) {i : Int} (i0 : 0 ≤ i) (i1 : i < 4) : aget g (g 192 53) i = some (g 217 i) := by
  rw [ly_192_53 hL]
  exact aget_in i0 (by rw [ll_217 hL]; exact i1)
theorem lay217 {g : hH} (hL : Lay g) {i v : Int} (i0 : 0 ≤ i) : Lay (hup g 217 i v) := hL.upA (by decide) (by omega)
theorem bookRun {c0 g0 : hH} (lv : Int) (x0 x1 : hH) {m : Int} (m40 : m ≤ 40) : ∀ (d : Nat) (i : Int) (c g : hH), (m - i).toNat = d → 0 ≤ i → i ≤ m → R2 c g → (∀ k, 0 ≤ k → k < m → LnR c g k) → c 37 2 = m → g 192 52 = m → g 217 0 = 0 → g 217 1 = i → Fr rlC c0 c → Fr bkF g0 g →
    ∃ w k wr c' g', (∀ r, fX11_book_b99 c' 0 lv w k = some r → lpO (fX11_book_s63 x0 0 lv) (c, 0, i, i) = some r) ∧ (∀ r, fX12_book_b194 g' 192 lv wr = some r → lpO (fX12_book_s138 x1 192 lv) (g, -1, i) = some r) ∧ R2 c' g' ∧ Fr rlC c0 c' ∧ Fr bkF g0 g' ∧ g' 217 0 = w ∧ g' 217 1 = k ∧ 0 ≤ k ∧ k ≤ 40 ∧ ((w = 0 ∧ wr = -1) ∨ (0 < w ∧ wr = k)) := by
  intro d
  induction d with
  | zero =>
    intro i c g hd i0 im hR hn hc hg t0 t1 fc fg
    have e : i = m := by omega
    subst e
    refine ⟨0, i, -1, c, g, fun r hr => lpO_inr ?_, fun r hr => lpO_inr ?_, hR, fc, fg, t0, t1, i0, m40, Or.inl ⟨rfl, rfl⟩⟩
    · unfold fX11_book_s63
      dsimp only
      rw [ly_0_6 hR.1, hc, if_neg (Int.lt_irrefl _), hr]
      rfl
    · unfold fX12_book_s138
      dsimp only
      rw [hg, if_neg (Int.lt_irrefl _), hr]
      rfl
  | succ d ih =>
    intro i c g hd i0 im hR hn hc hg t0 t1 fc fg
    have iLt : i < m := by omega
    have hs := hR.2.2.2.1
    obtain ⟨w, c1, g1, r1, r2, r3, r4, r5, r6⟩ := runLine2 hR (hn i i0 iLt)
    have hcs : fX11_book_s63 x0 0 lv (c, 0, i, i) = some (.inl (if w = 0 then (c1, w, i + 1, i + 1) else (c1, w, i, i + 1))) := by
      unfold fX11_book_s63
      dsimp only
      rw [ly_0_6 hR.1, hc, if_pos iLt, if_pos rfl, r1]
      simp only [Option.bind_some]
      rw [w1 (by omega) (by omega)]
      split <;> rfl
    have L1 := r3.2.1
    have hms : fX12_book_s138 x1 192 lv (g, -1, i) = if 0 < w then some (.inl (hup g1 217 0 w, i, i + 1)) else some (.inl (hup (hup g1 217 0 w) 217 1 (i + 1), -1, i + 1)) := by
      unfold fX12_book_s138
      dsimp only
      rw [hg, if_pos iLt, if_pos (by decide), w32_id (x := 20 * i) (by omega) (by omega), r2]
      simp only [Option.bind_some]
      have q : ∀ v, aput g1 (g 192 53) 0 v = some (hup g1 217 0 v) := fun v => by
        rw [ly_192_53 hR.2.1]
        exact aput_in (by decide) (by rw [ll_217 L1]; decide)
      first
      | rw [q]
      | rw [put217 L1 (by decide) (by decide)]
      simp only [Option.bind_some]
      have L2 : Lay (hup g1 217 0 w) := lay217 L1 (by decide)
      rw [get217 L2 (by decide) (by decide), hup_at]
      simp only [Option.bind_some]
      rw [w1 (by omega) (by omega)]
      split
      · rfl
      · rw [get217 L2 (by decide) (by decide), hup_ne (by omega), r5.row 217 (fun b => by unfold rlM jmF jmC; simp), t1]
        simp only [Option.bind_some]
        rw [w1 (by omega) (by omega), put217 L2 (by decide) (by decide)]
        rfl
    have c37 : c1 37 2 = m := by rw [rlC_row r4 (by omega)]; exact hc
    have g52 : g1 192 52 = m := by rw [r5 192 52 (by decide)]; exact hg
    by_cases z : w = 0
    · subst z
      rw [if_pos rfl] at hcs
      rw [if_neg (by omega)] at hms
      have L3 : Lay (hup (hup g1 217 0 0) 217 1 (i + 1)) := lay217 (lay217 L1 (by decide)) (by decide)
      have o : ∀ a, a ≠ 217 → hup (hup g1 217 0 0) 217 1 (i + 1) a = g1 a := fun a ha => by rw [hup_off ha, hup_off ha]
      have R3 := r3.g L3 (o 194 (by decide))
      obtain ⟨w', k, wr, c', g', y1, y2, y3⟩ := ih (i + 1) c1 _ (by omega) (by omega) (by omega) R3 (fun k k0 k1 => (hn k k0 k1).of hs (rlC_row r4 (by omega)) (by rw [o 197 (by decide), rlM_row r5 (by omega)]) (fun q _ q1 => by rw [o 194 (by decide), rlM_lo r5 q1])) c37 (by rw [o 192 (by decide)]; exact g52) (by rw [hup_ne (by omega), hup_at]) hup_at (fc.tr r4) (((fg.tr (rl_bk r5)).tr (Fr.up (by decide))).tr (Fr.up (by decide)))
      exact ⟨w', k, wr, c', g', fun r hr => by rw [lpO_inl hcs]; exact y1 r hr, fun r hr => by rw [lpO_inl hms]; exact y2 r hr, y3⟩
    · have wp : 0 < w := by omega
      rw [if_neg z] at hcs
      rw [if_pos wp] at hms
      have L2 : Lay (hup g1 217 0 w) := lay217 L1 (by decide)
      have R3 := r3.g L2 (hup_off (by decide))
      refine ⟨w, i, i, c1, hup g1 217 0 w, fun r hr => ?_, fun r hr => ?_, R3, fc.tr r4, (fg.tr (rl_bk r5)).tr (Fr.up (by decide)), hup_at, by rw [hup_ne (by omega), r5.row 217 (fun b => by unfold rlM jmF jmC; simp)]; exact t1, i0, by omega, Or.inr ⟨wp, rfl⟩⟩
      · rw [lpO_inl hcs]
        refine lpO_inr ?_
        unfold fX11_book_s63
        dsimp only
        rw [if_neg z, hr]
        split <;> rfl
      · rw [lpO_inl hms]
        refine lpO_inr ?_
        unfold fX12_book_s138
        dsimp only
        rw [if_neg (show ¬ i < 0 by omega), hr]
        split <;> rfl
/-- what can be undone, on two heaps -/
def U2 (c g : hH) : Prop := ∃ u, UndC c u (sl g) ∧ g 192 44 = u ∧ ∀ j, 0 ≤ j → j < u → StOk (sl g j)
theorem U2.of {c g c' g' : hH} (h : U2 c g) (e0 : c' 0 11 = c 0 11) (e : ∀ a, 74 ≤ a → a < 150 → a ≠ 76 → a ≠ 77 → c' a = c a) (em : g' 192 44 = g 192 44) (e2 : g' 212 = g 212) (es : ∀ i, i < 148 → g' 194 i = g 194 i) : U2 c' g' := by
  obtain ⟨u, ⟨u1, u0, u2, u3, u4, u5⟩, h2, h3⟩ := h
  have e74 := e 74 (by decide) (by decide) (by decide) (by decide)
  have es' := sl_eq e2 es
  refine ⟨u, ⟨e0.trans u1, u0, u2, by rw [e74]; exact u3, by rw [e74]; exact u4, fun j j0 j1 => ?_⟩, em.trans h2, by rw [es']; exact h3⟩
  rw [e74, es']
  obtain ⟨k, hk, hk2⟩ := u3 j j0 (by omega)
  exact StH.sameL (fun a a0 a1 => e a (by omega) (by omega) (by omega) (by omega)) (u5 j j0 j1)
/-- both keep a state that was -/
theorem keepU {c g : hH} {X : Int → Int} {A : Int} (hc : Lay c) (hg : Lay g) (hU : U2 c g) (hX : StH c 65 X) (hO : StOk X) (hA : g A (-1) = 1091) (hA2 : A ≠ 212 ∧ A ≠ 192) (hlo : ∀ i, 0 ≤ i → i < 148 → g 194 i = X i) (hX2 : ∀ i, 0 ≤ i → i < 1091 → g A i = X (148 + i)) (hT : g 194 0 ≤ 4) (h194 : A ≠ 194) : ∃ c' g', fX11_keepForUndo c 0 65 = some c' ∧ fX12_stores g 192 A = some g' ∧ Fr undC c c' ∧ Fr stM g g' ∧ U2 c' g' := by
  obtain ⟨u, U1, U2', U3⟩ := hU
  obtain ⟨n, n1, n2, n3⟩ := keep_ok hc U1 (Or.inr rfl) hX
  obtain ⟨x, x1, x2, x3, x4⟩ := stores3 (A := A) (U := sl g) (X := X) hg hA hA2 U2' U1.2.1 U1.2.2.1 rfl hlo hX2
  have x194 : x 194 = g 194 := stM_row x2 (by decide) (by decide)
  obtain ⟨v1, v0, v2, v3, v4, v5⟩ := n2
  refine ⟨n, x, n1, x1, n3, x2, _, ⟨v1, v0, v2, v3, v4, fun j j0 j1 => (v5 j j0 j1).cong (x4 j j0 j1).sy⟩, x3, fun j j0 j1 => (push_ok U3 hO j j0 j1).cong (x4 j j0 j1).sy ?_⟩
  rw [← x4 j j0 j1 0 (by decide) (by decide)]
  unfold sl slA
  rw [if_pos (by decide), x194]
  exact hT
