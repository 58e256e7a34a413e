/-! DRAWS: numbers, and a drawn line, on two heaps -/
def lcg (x : Int) : Int := w32 (w32 (x * 1103515245) + 12345)
def drw (x n : Int) : Int := irmD (iusD (lcg x) 8) n
theorem ius8_b (y : Int) : 0 ≤ iusD y 8 ∧ iusD y 8 < 16777216 := by
  unfold iusD
  generalize Int32.ofInt y = x
  have hn : (x.toBitVec >>> 8).toNat < 16777216 := by
    rw [BitVec.toNat_ushiftRight, Nat.shiftRight_eq_div_pow]
    have := x.toBitVec.isLt
    omega
  have hb : (((x.toUInt32 >>> ((Int32.ofInt 8).toUInt32 &&& Int32.toUInt32 31)).toInt32)).toBitVec = x.toBitVec >>> 8 := rfl
  have ht : ((x.toUInt32 >>> ((Int32.ofInt 8).toUInt32 &&& Int32.toUInt32 31)).toInt32).toInt = ((x.toBitVec >>> 8).toNat : Int) := by
    show BitVec.toInt (Int32.toBitVec _) = _
    rw [hb]
    exact BitVec.toInt_eq_toNat_of_lt (by omega)
  rw [ht, w32_id (by omega) (by omega)]
  omega
theorem irm_ok {a b : Int} (a0 : 0 ≤ a) (a1 : a < 2147483648) (b0 : 1 ≤ b) (b1 : b < 2147483648) : irmD a b = a % b ∧ idvD a b = a / b := by
  have ea : (Int32.ofInt a).toInt = a := w32_id (by omega) (by omega)
  have eb : (Int32.ofInt b).toInt = b := w32_id (by omega) (by omega)
  have q0 : 0 ≤ a / b := Int.ediv_nonneg a0 (by omega)
  have q1 : a / b ≤ a := Int.ediv_le_self _ a0
  have hdm := Int.mul_ediv_add_emod a b
  have m0 := Int.emod_nonneg a (show b ≠ 0 by omega)
  have m1 := Int.emod_lt_of_pos a (show 0 < b by omega)
  have m2 : a % b ≤ a := by
    have : 0 ≤ b * (a / b) := Int.mul_nonneg (by omega) q0
    omega
  have ed : (Int32.ofInt a / Int32.ofInt b).toInt = a / b := by
    rw [Int32.toInt_div, ea, eb, Int.tdiv_eq_ediv_of_nonneg a0]
    show Int.bmod _ 4294967296 = _
    rw [← w32_eq]
    exact w32_id (by omega) (by omega)
  have em : (Int32.ofInt a / Int32.ofInt b * Int32.ofInt b).toInt = b * (a / b) := by
    rw [Int32.toInt_mul, ed, eb, Int.mul_comm]
    show Int.bmod _ 4294967296 = _
    rw [← w32_eq]
    exact w32_id (by omega) (by omega)
  constructor
  · unfold irmD
    rw [Int32.toInt_sub, ea, em]
    show w32 (Int.bmod _ 4294967296) = _
    rw [← w32_eq, w32_id (x := a - b * (a / b)) (by omega) (by omega), w32_id (by omega) (by omega)]
    omega
  · unfold idvD
    rw [ed, w32_id (by omega) (by omega)]
theorem drw_b {x n : Int} (n1 : 1 ≤ n) (n2 : n < 1000) : 0 ≤ drw x n ∧ drw x n < n := by
  obtain ⟨a, b⟩ := ius8_b (lcg x)
  unfold drw
  rw [(irm_ok a (by omega) n1 (by omega)).1]
  exact ⟨Int.emod_nonneg _ (by omega), Int.emod_lt_of_pos _ (by omega)⟩
theorem drawC {c : hH} {n x : Int} (hx : c 0 18 = x) (n1 : 1 ≤ n) : fX11_draw c 0 n = some (drw x n, hup c 0 18 (lcg x)) := by
  unfold fX11_draw gdz
  simp only [pput, Option.bind_some]
  rw [if_neg (by omega), if_neg (by omega)]
  simp only [Option.bind_some]
  rw [hup_at, hx]
  rfl
theorem drawM {g : hH} {n x : Int} (hx : g 192 51 = x) (n1 : 1 ≤ n) : fX12_draw g 192 n = some (drw x n, hup g 192 51 (lcg x)) := by
  unfold fX12_draw gdz
  simp only [pput, Option.bind_some]
  rw [if_neg (by omega)]
  simp only [Option.bind_some]
  rw [hup_at, hx]
  rfl
def dlC (a b : Int) : Bool := (a == 0 && b == 18) || (a == 38 && decide (0 ≤ b))
def dlM (a b : Int) : Bool := (a == 192 && b == 51) || (a == 197 && decide (0 ≤ b))
theorem dlC_1 : refT.all (fun q => !(dlC q.1 q.2.1)) = true := by decide +kernel
theorem dlC_2 : lenT.all (fun q => !(dlC q.1 (-1))) = true := by decide +kernel
theorem dlM_1 : refT.all (fun q => !(dlM q.1 q.2.1)) = true := by decide +kernel
theorem dlM_2 : lenT.all (fun q => !(dlM q.1 (-1))) = true := by decide +kernel
theorem dlC_row {c c' : hH} (hf : Fr dlC c c') {a : Int} (h1 : a ≠ 0) (h2 : a ≠ 38) : c' a = c a := hf.row a (fun b => by unfold dlC; simp; omega)
theorem dlM_row {g g' : hH} (hf : Fr dlM g g') {a : Int} (h1 : a ≠ 192) (h2 : a ≠ 197) : g' a = g a := hf.row a (fun b => by unfold dlM; simp; omega)
def dval (x : Int) : Int := if drw x 5 = 4 then -1 else drw x 5
theorem dval_b (x : Int) : -1 ≤ dval x ∧ dval x ≤ 99 := by
  have := drw_b (x := x) (n := 5) (by decide) (by decide)
  unfold dval
  split <;> omega
/-- the values of a drawn row -/
theorem drawVals {t W : Int} (t0 : 0 ≤ t) (t1 : t < 4) (W4 : W ≤ 4) (x0 x1 : hH) {c0 g0 : hH} : ∀ (d : Nat) (l x : Int) (c g : hH), l + d = W → 0 ≤ l → Lay c → Lay g → g 194 (4 + t) = W → c 0 18 = x → g 192 51 = x → VI 0 0 l c g → Fr dlC c0 c → Fr dlM g0 g → (∀ b, (b < 3 ∨ 7 ≤ b) → c 38 b = c0 38 b) → (∀ b, (b < 3 ∨ 7 ≤ b) → g 197 b = g0 197 b) →
    ∃ c' g', lpO (fX11_drawLine_s104 x0 0 W) (c, l) = some c' ∧ lpO (fX12_drawsLine_s47 x1 192 t) (g, l) = some g' ∧ Lay c' ∧ Lay g' ∧ c' 0 18 = g' 192 51 ∧ VI 0 0 W c' g' ∧ Fr dlC c0 c' ∧ Fr dlM g0 g' ∧ (∀ b, (b < 3 ∨ 7 ≤ b) → c' 38 b = c0 38 b) ∧ (∀ b, (b < 3 ∨ 7 ≤ b) → g' 197 b = g0 197 b) := by
  intro d
  induction d with
  | zero =>
    intro l x c g hd l0 Lc Lg hW hx hx' hI fc fg oc og
    have e : l = W := by omega
    refine ⟨c, g, lpO_inr ?_, lpO_inr ?_, Lc, Lg, by rw [hx, hx'], by rw [← e]; exact hI, fc, fg, oc, og⟩
    · unfold fX11_drawLine_s104
      dsimp only
      rw [if_neg (by omega)]
    · unfold fX12_drawsLine_s47
      dsimp only
      rw [w32_id (x := 4 + t) (by omega) (by omega), sgk Lg (by omega) (by omega), hW]
      simp only [Option.bind_some]
      rw [if_neg (by omega)]
  | succ d ih =>
    intro l x c g hd l0 Lc Lg hW hx hx' hI fc fg oc og
    have La : Lay (hup c 0 18 (lcg x)) := Lc.upF (by decide)
    have Ga : Lay (hup g 192 51 (lcg x)) := Lg.upF (by decide)
    have hc : fX11_drawLine_s104 x0 0 W (c, l) = some (.inl (hup (hup c 0 18 (lcg x)) 38 (3 + l) (dval x), l + 1)) := by
      unfold fX11_drawLine_s104 fX11_drawLine_b138
      dsimp only
      rw [if_pos (by omega), drawC hx (by decide)]
      simp only [Option.bind_some]
      rw [ly_0_6 La, w32_id (x := 3 + l) (by omega) (by omega), setPart_ok La (by decide) (by decide) (by omega) (by omega), setPart_ok La (by decide) (by decide) (by omega) (by omega), w1 (by omega) (by omega), show 19 * 0 + (3 + l) = 3 + l by omega]
      unfold dval
      split <;> rfl
    have hm : fX12_drawsLine_s47 x1 192 t (g, l) = some (.inl (hup (hup g 192 51 (lcg x)) 197 (3 + l) (dval x), l + 1)) := by
      unfold fX12_drawsLine_s47 fX12_drawsLine_b85
      dsimp only
      rw [w32_id (x := 4 + t) (by omega) (by omega), sgk Lg (by omega) (by omega), hW]
      simp only [Option.bind_some]
      rw [if_pos (by omega), drawM hx' (by decide)]
      simp only [Option.bind_some]
      rw [w32_id (x := 3 + l) (by omega) (by omega), put197 Ga (by omega) (by omega), put197 Ga (by omega) (by omega), w1 (by omega) (by omega)]
      unfold dval
      split <;> rfl
    have Lb : Lay (hup (hup c 0 18 (lcg x)) 38 (3 + l) (dval x)) := La.upA (by decide) (by omega)
    have Gb : Lay (hup (hup g 192 51 (lcg x)) 197 (3 + l) (dval x)) := Ga.upA (by decide) (by omega)
    have rc : ∀ b, hup (hup c 0 18 (lcg x)) 38 (3 + l) (dval x) 38 b = if b = 3 + l then dval x else c 38 b := fun b => by
      rw [hup_row, hup_off (by decide)]
      rfl
    have rg : ∀ b, hup (hup g 192 51 (lcg x)) 197 (3 + l) (dval x) 197 b = if b = 3 + l then dval x else g 197 b := fun b => by
      rw [hup_row, hup_off (by decide)]
      rfl
    have hv := dval_b x
    obtain ⟨c', g', y1, y2, y3⟩ := ih (l + 1) (lcg x) _ _ (by omega) (by omega) Lb Gb (by rw [hup_off (by decide), hup_off (by decide)]; exact hW) (by rw [hup_off (by decide), hup_at]) (by rw [hup_off (by decide), hup_at]) ⟨fun k k0 k1 => by
      rw [rc, rg]
      by_cases e : k = l
      · rw [if_pos (by omega), if_pos (by omega)]
        exact ⟨rfl, hv⟩
      · rw [if_neg (by omega), if_neg (by omega)]
        exact hI.1 k k0 (by omega), fun k k0 k1 => by
      rw [rc, if_neg (by omega)]
      exact hI.2 k (by omega) k1⟩ ((fc.tr (Fr.up (by decide))).tr (Fr.up (by unfold dlC; simp; omega))) ((fg.tr (Fr.up (by decide))).tr (Fr.up (by unfold dlM; simp; omega))) (fun b hb => by rw [rc, if_neg (by omega)]; exact oc b hb) (fun b hb => by rw [rg, if_neg (by omega)]; exact og b hb)
    exact ⟨c', g', by rw [lpO_inl hc]; exact y1, by rw [lpO_inl hm]; exact y2, y3⟩
/-- a row that is drawn: the line is as told -/
theorem insEnd {S : Int → Int} {c g : hH} {t : Int} (ht : 0 ≤ t ∧ t < S 0) (hw : S (4 + t) ≤ 4) (c0 : c 38 0 = 141) (c1 : c 38 1 = t) (c2 : c 38 2 = 0) (g0 : g 197 0 = 0) (g1 : g 197 1 = t) (g2 : g 197 2 = 0) (g7 : g 197 7 = 0) (hI : VI 0 0 (S (4 + t)) c g) : LOk S (fun q => g 197 (0 + q)) ∧ LinC S c 0 (fun q => g 197 (0 + q)) := by
  obtain ⟨v1, v2⟩ := hI
  have e : ∀ k, g 197 (0 + k) = g 197 k := fun k => by rw [show 0 + k = k by omega]
  constructor
  · unfold LOk
    dsimp only
    rw [e 0, e 1, e 2, e 7, g0, g1, g2, g7]
    exact ⟨Or.inl rfl, ht, by decide, fun k k0 k1 => by omega, fun _ => ⟨rfl, rfl, fun k k0 k1 => (v1 k k0 k1).2⟩, fun z => by omega, fun z => by omega⟩
  · unfold LinC
    dsimp only
    refine ⟨⟨by decide, by decide⟩, by rw [show (19 : Int) * 0 = 0 from rfl, c0, if_pos (by rw [e]; exact g0)], by rw [e 1, g1]; exact c1, by rw [e 7, g7]; exact c2, fun k k0 k1 => by rw [e 7, g7] at k1; omega, fun _ k k0 k1 => ?_, fun z => by rw [e 0, g0] at z; omega⟩
    by_cases y : k < S (4 + t)
    · rw [if_pos (show k < S (4 + g 197 (0 + 1)) by rw [e 1, g1]; exact y)]; exact (v1 k k0 y).1
    · rw [if_neg (show ¬ k < S (4 + g 197 (0 + 1)) by rw [e 1, g1]; exact y)]; exact v2 k (by omega) k1
/-- a deletion or a setting that is drawn -/
theorem delEnd {S : Int → Int} {c g : hH} {t k v v2 q : Int} (ht : 0 ≤ t ∧ t < S 0) (hk : 0 ≤ k ∧ k < S (4 + t)) (hv : -1 ≤ v ∧ v ≤ 99) (hv2 : -1 ≤ v2 ∧ v2 ≤ 99) (hq : q = 1 ∨ q = 2) (c0 : c 38 0 = if q = 1 then 142 else 145) (c1 : c 38 1 = t) (c2 : c 38 2 = 1) (c7 : c 38 7 = k) (c8 : c 38 8 = 61) (c9 : c 38 9 = v) (c3 : q = 2 → c 38 3 = k ∧ c 38 4 = v2 ∧ c 38 5 = -1) (g0 : g 197 0 = q) (g1 : g 197 1 = t) (g7 : g 197 7 = 1) (g8 : g 197 8 = k) (g9 : g 197 9 = 61) (g10 : g 197 10 = v) (g2 : g 197 2 = if q = 1 then 0 else 1) (g3 : q = 2 → g 197 3 = k ∧ g 197 4 = v2) : LOk S (fun q => g 197 (0 + q)) ∧ LinC S c 0 (fun q => g 197 (0 + q)) := by
  have e : ∀ k, g 197 (0 + k) = g 197 k := fun k => by rw [show 0 + k = k by omega]
  have z0 : ∀ x : Int, 0 ≤ x → x < 1 → x = 0 := fun x a b => by omega
  constructor
  · unfold LOk
    dsimp only
    rw [e 0, e 1, e 2, e 3, e 4, e 5, e 6, e 7, g0, g1, g2, g7]
    refine ⟨by omega, ht, by decide, fun x x0 x1 => ?_, fun z => by omega, fun z => by rw [if_pos z], fun z => ⟨by rw [if_neg (by omega)]; exact Or.inl rfl, ?_, ?_, fun y => by rw [if_neg (by omega)] at y; omega⟩⟩
    · rw [z0 x x0 x1, e, e, e]
      show (0 ≤ g 197 8 ∧ g 197 8 < S (4 + t)) ∧ (g 197 9 = 60 ∨ g 197 9 = 61 ∨ g 197 9 = 62) ∧ -1 ≤ g 197 10 ∧ g 197 10 ≤ 99
      rw [g8, g9, g10]
      exact ⟨hk, Or.inr (Or.inl rfl), hv⟩
    · rw [(g3 z).1]; exact hk
    · rw [(g3 z).2]; exact hv2
  · unfold LinC
    dsimp only
    refine ⟨⟨by decide, by decide⟩, ?_, by rw [e 1, g1]; exact c1, by rw [e 7, g7]; exact c2, fun x x0 x1 => ?_, fun z => by rw [e 0, g0] at z; omega, fun z => ?_⟩
    · rw [show (19 : Int) * 0 = 0 from rfl, c0]
      rcases hq with rfl | rfl
      · rw [if_pos rfl, if_neg (by rw [e, g0]; decide), if_pos (by rw [e]; exact g0)]
      · rw [if_neg (by decide), if_neg (by rw [e, g0]; decide), if_neg (by rw [e, g0]; decide)]
    · rw [e 7, g7] at x1
      rw [z0 x x0 x1, e, e, e]
      show c 38 7 = g 197 8 ∧ c 38 8 = g 197 9 ∧ c 38 9 = g 197 10
      rw [c7, c8, c9, g8, g9, g10]
      exact ⟨rfl, rfl, rfl⟩
    · rw [e 0, g0] at z
      rw [e 2, e 3, e 4, g2, (g3 z).1, (g3 z).2, if_neg (show ¬ q = 1 by omega)]
      exact ⟨(c3 z).1, (c3 z).2.1, fun y => by omega, fun _ => (c3 z).2.2⟩
