/-! A SENTENCE: beginnings of ONES, both ways -/
theorem ior_b {a b : Int} (a0 : 0 ≤ a) (a1 : a < 4096) (b0 : 0 ≤ b) (b1 : b < 4096) : 0 ≤ iorD a b ∧ iorD a b < 4096 := by
  obtain ⟨x, rfl⟩ : ∃ x : Nat, a = (x : Int) := ⟨a.toNat, by omega⟩
  obtain ⟨y, rfl⟩ : ∃ y : Nat, b = (y : Int) := ⟨b.toNat, by omega⟩
  have hl : x ||| y < 2 ^ 12 := Nat.or_lt_two_pow (by omega) (by omega)
  have n : ∀ z : Nat, z < 4096 → (Int32.ofInt (z : Int)).toBitVec.toNat = z := fun z hz => by
    have : (Int32.ofInt (z : Int)).toBitVec = BitVec.ofInt 32 (z : Int) := rfl
    rw [this, BitVec.toNat_ofInt]
    omega
  have e : (Int32.ofInt (x : Int) ||| Int32.ofInt (y : Int)).toBitVec.toNat = x ||| y := by
    rw [Int32.toBitVec_or, BitVec.toNat_or, n x (by omega), n y (by omega)]
  have e2 : (Int32.ofInt (x : Int) ||| Int32.ofInt (y : Int)).toInt = ((x ||| y : Nat) : Int) := by
    show BitVec.toInt (Int32.toBitVec _) = _
    rw [BitVec.toInt_eq_toNat_of_lt (by rw [e]; omega), e]
  unfold iorD
  rw [e2, w32_id (by omega) (by omega)]
  omega
theorem ish_tab : ∀ r : Fin 5, ∀ t : Fin 4, ishD (r.1 : Int) (3 * (t.1 : Int)) = (r.1 : Int) * 8 ^ t.1 := by decide +kernel
theorem ior_add {l r t : Int} (t0 : 0 ≤ t) (t1 : t < 4) (l0 : 0 ≤ l) (l1 : l < 8 ^ t.toNat) (r0 : 0 ≤ r) (r1 : r < 5) : iorD l (ishD r (3 * t)) = l + r * 8 ^ t.toNat := by
  have e := ish_tab ⟨r.toNat, by omega⟩ ⟨t.toNat, by omega⟩
  dsimp only at e
  rw [show ((r.toNat : Nat) : Int) = r by omega, show ((t.toNat : Nat) : Int) = t by omega] at e
  rw [e]
  obtain ⟨x, rfl⟩ : ∃ x : Nat, l = (x : Int) := ⟨l.toNat, by omega⟩
  obtain ⟨y, rfl⟩ : ∃ y : Nat, r = (y : Int) := ⟨r.toNat, by omega⟩
  obtain ⟨k, rfl⟩ : ∃ k : Nat, t = (k : Int) := ⟨t.toNat, by omega⟩
  rw [Int.toNat_natCast] at l1 ⊢
  have hp : (8 : Nat) ^ k = 2 ^ (3 * k) := by rw [Nat.pow_mul]
  have hx : x < 2 ^ (3 * k) := by
    rw [← hp]
    have : ((x : Nat) : Int) < ((8 ^ k : Nat) : Int) := by push_cast; exact l1
    omega
  have hk : (8 : Nat) ^ k ≤ 512 := by
    have : k ≤ 3 := by omega
    exact Nat.le_trans (Nat.pow_le_pow_right (by decide) this) (by decide)
  have hy : y * 8 ^ k ≤ 4 * 512 := Nat.mul_le_mul (by omega) hk
  have hor : y * 8 ^ k ||| x = y * 8 ^ k + x := by
    have := Nat.shiftLeft_add_eq_or_of_lt (b := x) (i := 3 * k) hx y
    rw [Nat.shiftLeft_eq, ← hp] at this
    exact this.symm
  have n : ∀ z : Nat, z < 100000 → (Int32.ofInt (z : Int)).toBitVec.toNat = z := fun z hz => by
    have : (Int32.ofInt (z : Int)).toBitVec = BitVec.ofInt 32 (z : Int) := rfl
    rw [this, BitVec.toNat_ofInt]
    omega
  have e0 : ((y : Int) * 8 ^ k) = ((y * 8 ^ k : Nat) : Int) := by push_cast; rfl
  rw [e0]
  have e1 : (Int32.ofInt (x : Int) ||| Int32.ofInt ((y * 8 ^ k : Nat) : Int)).toBitVec.toNat = y * 8 ^ k + x := by
    rw [Int32.toBitVec_or, BitVec.toNat_or, n x (by omega), n _ (by omega), Nat.or_comm, hor]
  have e2 : (Int32.ofInt (x : Int) ||| Int32.ofInt ((y * 8 ^ k : Nat) : Int)).toInt = ((y * 8 ^ k + x : Nat) : Int) := by
    show BitVec.toInt (Int32.toBitVec _) = _
    rw [BitVec.toInt_eq_toNat_of_lt (by rw [e1]; omega), e1]
  unfold iorD
  rw [e2, w32_id (by omega) (by omega)]
  omega
/-- what a pack of columns is -/
def PkOk (p : Int) : Prop := ∃ a b c d : Int, (0 ≤ a ∧ a ≤ 4) ∧ (0 ≤ b ∧ b ≤ 4) ∧ (0 ≤ c ∧ c ≤ 4) ∧ (0 ≤ d ∧ d ≤ 4) ∧ p = a + 8 * b + 64 * c + 512 * d
def PkD (t l : Int) : Prop := ∃ a b c d : Int, (0 ≤ a ∧ a ≤ 4) ∧ (0 ≤ b ∧ b ≤ 4) ∧ (0 ≤ c ∧ c ≤ 4) ∧ (0 ≤ d ∧ d ≤ 4) ∧ (t ≤ 0 → a = 0) ∧ (t ≤ 1 → b = 0) ∧ (t ≤ 2 → c = 0) ∧ (t ≤ 3 → d = 0) ∧ l = a + 8 * b + 64 * c + 512 * d
theorem PkD.ok {t l : Int} (h : PkD t l) : PkOk l ∧ 0 ≤ l ∧ l < 4096 := by
  obtain ⟨a, b, c, d, h1, h2, h3, h4, -, -, -, -, h5⟩ := h
  exact ⟨⟨a, b, c, d, h1, h2, h3, h4, h5⟩, by omega, by omega⟩
theorem PkD.s {t l r : Int} (t0 : 0 ≤ t) (t1 : t < 4) (h : PkD t l) (r0 : 0 ≤ r) (r1 : r < 5) : PkD (t + 1) (iorD l (ishD r (3 * t))) := by
  obtain ⟨a, b, c, d, h1, h2, h3, h4, g1, g2, g3, g4, h5⟩ := h
  rcases (show t = 0 ∨ t = 1 ∨ t = 2 ∨ t = 3 by omega) with rfl | rfl | rfl | rfl
  · rw [ior_add (by decide) (by decide) (by omega) (by show l < 1; omega) r0 r1]
    exact ⟨r, 0, 0, 0, by omega, by decide, by decide, by decide, by omega, by omega, by omega, by omega, by show l + r * 1 = _; omega⟩
  · rw [ior_add (by decide) (by decide) (by omega) (by show l < 8; omega) r0 r1]
    exact ⟨a, r, 0, 0, h1, by omega, by decide, by decide, by omega, by omega, by omega, by omega, by show l + r * 8 = _; omega⟩
  · rw [ior_add (by decide) (by decide) (by omega) (by show l < 64; omega) r0 r1]
    exact ⟨a, b, r, 0, h1, h2, by omega, by decide, by omega, by omega, by omega, by omega, by show l + r * 64 = _; omega⟩
  · rw [ior_add (by decide) (by decide) (by omega) (by show l < 512; omega) r0 r1]
    exact ⟨a, b, c, r, h1, h2, h3, by omega, by omega, by omega, by omega, by omega, by show l + r * 512 = _; omega⟩
/-- a plain ONE as a code -/
def LeafOk (x : CT) : Prop := (x.1 = 0 ∨ x.1 = 1 ∨ x.1 = 2 ∨ x.1 = 3) ∨ ((x.1 = 4 ∨ (100 ≤ x.1 ∧ PkOk (x.1 - 100))) ∧ (x.2.1 = 60 ∨ x.2.1 = 61 ∨ x.2.1 = 62) ∧ 0 ≤ x.2.2 ∧ x.2.2 ≤ 99)
/-- codes, run from d answers to e -/
def WFr : List CT → Nat → Nat → Prop
  | [], d, e => d = e
  | x :: γ, d, e => (LeafOk x ∧ WFr γ (d + 1) e) ∨ (x = opc 20 ∧ 1 ≤ d ∧ WFr γ d e) ∨ ((x = opc 21 ∨ x = opc 22) ∧ 2 ≤ d ∧ WFr γ (d - 1) e)
theorem WFr.app : ∀ {γ ρ : List CT} {d m e : Nat}, WFr γ d m → WFr ρ m e → WFr (γ ++ ρ) d e
  | [], ρ, d, m, e, h1, h2 => by
    have : d = m := h1
    subst this
    exact h2
  | x :: γ, ρ, d, m, e, h1, h2 => by
    rcases h1 with ⟨a, b⟩ | ⟨a, b, c⟩ | ⟨a, b, c⟩
    · exact Or.inl ⟨a, WFr.app b h2⟩
    · exact Or.inr (Or.inl ⟨a, b, WFr.app c h2⟩)
    · exact Or.inr (Or.inr ⟨a, b, WFr.app c h2⟩)
/-- one answer more -/
def Ext (γ γ' : List CT) : Prop := ∃ ρ, γ' = γ ++ ρ ∧ ∀ d, WFr ρ d (d + 1)
/-- as many answers -/
def ExtL (γ γ' : List CT) : Prop := ∃ ρ, γ' = γ ++ ρ ∧ ∀ d, 1 ≤ d → WFr ρ d d
theorem ExtL.rf {γ : List CT} : ExtL γ γ := ⟨[], (List.append_nil _).symm, fun _ _ => rfl⟩
theorem ExtL.tr {a b c : List CT} (h1 : ExtL a b) (h2 : ExtL b c) : ExtL a c := by
  obtain ⟨r1, rfl, w1⟩ := h1
  obtain ⟨r2, rfl, w2⟩ := h2
  exact ⟨r1 ++ r2, by rw [List.append_assoc], fun d hd => (w1 d hd).app (w2 d hd)⟩
theorem Ext.tr {a b c : List CT} (h1 : Ext a b) (h2 : ExtL b c) : Ext a c := by
  obtain ⟨r1, rfl, w1⟩ := h1
  obtain ⟨r2, rfl, w2⟩ := h2
  exact ⟨r1 ++ r2, by rw [List.append_assoc], fun d => (w1 d).app (w2 (d + 1) (by omega))⟩
theorem Ext.leaf {γ : List CT} {x : CT} (h : LeafOk x) : Ext γ (γ ++ [x]) := ⟨[x], rfl, fun _ => Or.inl ⟨h, rfl⟩⟩
theorem Ext.not {γ γ' : List CT} (h : Ext γ γ') : Ext γ (γ' ++ [opc 20]) := by
  obtain ⟨r1, rfl, w1⟩ := h
  exact ⟨r1 ++ [opc 20], by rw [List.append_assoc], fun d => (w1 d).app (Or.inr (Or.inl ⟨rfl, by omega, rfl⟩))⟩
theorem Ext.two {γ γ' : List CT} {x : Int} (h : Ext γ γ') (hx : x = 21 ∨ x = 22) : ExtL γ (γ' ++ [opc x]) := by
  obtain ⟨r1, rfl, w1⟩ := h
  refine ⟨r1 ++ [opc x], by rw [List.append_assoc], fun d hd => (w1 d).app (Or.inr (Or.inr ⟨?_, by omega, rfl⟩))⟩
  rcases hx with rfl | rfl
  · exact Or.inl rfl
  · exact Or.inr rfl
section SIM
variable {B : Int → Int} {L M n : Int} {K A V E : Int → Int}
theorem pack2 {c g : hH} {j : Int} (hg : SM B L M n K A V E j g) (hP : PI c g) (hk : K j = 4) : ∃ p, PkOk p ∧ 0 ≤ p ∧ p < 4096 ∧ fX12_packOf g 192 = some p ∧ fX6_colsNamed c 4 (V j) = some (-p) := by
  have hs := hP.2.2.1
  have h0 := hs.1
  have e40 : c 4 0 = g 194 0 := hP.2.1.1.1
  have key : ∀ (d : Nat) (t l : Int), t + d = g 194 0 → 0 ≤ t → PkD t l → ∃ p, PkOk p ∧ 0 ≤ p ∧ p < 4096 ∧ lpO (fX12_packOf_s4 g 192) (l, t) = some p ∧ lpO (fX6_colsNamed_s5 c 4 (V j)) (l, t) = some (-p) := by
    intro d
    induction d with
    | zero =>
      intro t l hd t0 hl
      obtain ⟨l2, l0, l1⟩ := hl.ok
      refine ⟨l, l2, l0, l1, lpO_inr ?_, lpO_inr ?_⟩
      · unfold fX12_packOf_s4
        dsimp only
        rw [sgk hg.1.1 (by decide) (by decide)]
        simp only [Option.bind_some]
        rw [if_neg (by omega)]
      · unfold fX6_colsNamed_s5
        dsimp only
        rw [e40, if_neg (by omega), w32_id (by omega) (by omega)]
    | succ d ih =>
      intro t l hd t0 hl
      obtain ⟨r, r1, r2, r3⟩ := col_find hP hg hk t0 (by omega)
      have hw := hs.2.2.2.2.1 t t0 (by omega)
      obtain ⟨p, pk, p0, p1, p2, p3⟩ := ih (t + 1) (iorD l (ishD (r + 1) (3 * t))) (by omega) (by omega) (hl.s t0 (by omega) (by omega) (by omega))
      have hm : fX12_packOf_s4 g 192 (l, t) = some (.inl (iorD l (ishD (r + 1) (3 * t)), t + 1)) := by
        unfold fX12_packOf_s4
        dsimp only
        rw [sgk hg.1.1 (by decide) (by decide)]
        simp only [Option.bind_some]
        rw [if_pos (by omega), w32_id (x := 4 + t) (by omega) (by omega), sgk hg.1.1 (by omega) (by omega)]
        simp only [Option.bind_some]
        rw [w32_id (x := 4 * t) (by omega) (by omega), w32_id (x := 4 + 4 * t) (by omega) (by omega), show 4 + 4 * t = 0 + 4 + 4 * t by omega, r2]
        simp only [Option.bind_some]
        rw [w32_id (x := r + 1) (by omega) (by omega), w32_id (x := 3 * t) (by omega) (by omega), w1 (by omega) (by omega)]
      have hc : fX6_colsNamed_s5 c 4 (V j) (l, t) = some (.inl (iorD l (ishD (r + 1) (3 * t)), t + 1)) := by
        unfold fX6_colsNamed_s5
        dsimp only
        rw [e40, if_pos (by omega), r1]
        simp only [Option.bind_some]
        rw [w32_id (x := r + 1) (by omega) (by omega), w32_id (x := 3 * t) (by omega) (by omega), w1 (by omega) (by omega)]
      exact ⟨p, pk, p0, p1, by rw [lpO_inl hm]; exact p2, by rw [lpO_inl hc]; exact p3⟩
  exact key (g 194 0).toNat 0 0 (by omega) (Int.le_refl _) ⟨0, 0, 0, 0, by decide, by decide, by decide, by decide, fun _ => rfl, fun _ => rfl, fun _ => rfl, fun _ => rfl, rfl⟩
theorem sw_w : (1650553445 : Int) = rs256 24 ∧ (461414299502 : Int) = rs256 25 ∧ (108243635103086 : Int) = rs256 26 ∧ (26990 : Int) = rs256 27 ∧ (7499639 : Int) = rs256 28 ∧ (7237492 : Int) = rs256 23 ∧ (28530 : Int) = rs256 22 ∧ (6385252 : Int) = rs256 16 := by decide +kernel
def lfK (k p : Int) : Int := if k = 152 then 0 else if k = 153 then 1 else if k = 154 then 2 else if k = 155 then 3 else if k = 156 then 4 else if k = 4 then 100 + p else -1
theorem leafOf_ok {g : hH} {j p : Int} (hg : SM B L M n K A V E j g) (p0 : 0 ≤ p) (p1 : p < 4096) (hp : K j = 4 → fX12_packOf g 192 = some p) : fX12_leafOf g 192 = some (lfK (K j) p) := by
  unfold fX12_leafOf lfK
  rw [sw_w.1, sw_w.2.1, sw_w.2.2.1, sw_w.2.2.2.1, sw_w.2.2.2.2.1, isWordM hg (by decide) (by decide), isWordM hg (by decide) (by decide), isWordM hg (by decide) (by decide), isWordM hg (by decide) (by decide), isWordM hg (by decide) (by decide), isNameM hg]
  simp only [Option.bind_some]
  by_cases a1 : K j = 152
  · rw [if_pos (show K j = 128 + 24 by omega), if_neg (show ¬ (1 : Int) = 0 by decide), if_pos a1]
  · rw [if_neg (show ¬ K j = 128 + 24 by omega), if_neg a1]
    simp only [if_true]
    by_cases a2 : K j = 153
    · rw [if_pos (show K j = 128 + 25 by omega), if_neg (show ¬ (1 : Int) = 0 by decide), if_pos a2]
    · rw [if_neg (show ¬ K j = 128 + 25 by omega), if_neg a2]
      simp only [if_true]
      by_cases a3 : K j = 154
      · rw [if_pos (show K j = 128 + 26 by omega), if_neg (show ¬ (1 : Int) = 0 by decide), if_pos a3]
      · rw [if_neg (show ¬ K j = 128 + 26 by omega), if_neg a3]
        simp only [if_true]
        by_cases a4 : K j = 155
        · rw [if_pos (show K j = 128 + 27 by omega), if_neg (show ¬ (1 : Int) = 0 by decide), if_pos a4]
        · rw [if_neg (show ¬ K j = 128 + 27 by omega), if_neg a4]
          simp only [if_true]
          by_cases a5 : K j = 156
          · rw [if_pos (show K j = 128 + 28 by omega), if_neg (show ¬ (1 : Int) = 0 by decide), if_pos a5]
          · rw [if_neg (show ¬ K j = 128 + 28 by omega), if_neg a5]
            simp only [if_true]
            by_cases a6 : K j = 4
            · rw [if_pos a6, if_neg (show ¬ (1 : Int) = 0 by decide), if_pos a6, hp a6]
              simp only [Option.bind_some]
              rw [w32_id (by omega) (by omega)]
            · rw [if_neg a6, if_neg a6]
              simp only [if_true]
/-- kinds that begin a ONE -/
abbrev stOne (k : Int) : Prop := k = 4 ∨ k = 151 ∨ k = 40 ∨ (152 ≤ k ∧ k ≤ 156)
noncomputable def opLeaf (h140 : hH) (l3 : Int) : Option (Int × hH) :=
  if l3 < 3 then
    (fX12_code h140 192 l3 0 0).bind fun h152 => some (1, h152)
  else
    if l3 = 3 then
      (aget h140 (h140 192 6) 0).bind fun v169 =>
      (fX12_looksAt h140 192 0 v169).bind fun q170 =>
      if q170.1 = 0 then
        some (0, q170.2)
      else
        (fX12_code q170.2 192 l3 0 (q170.2 192 19)).bind fun h185 =>
        (fX12_next h185 192).bind fun h189 =>
        some (1, h189)
    else
      if h140 192 12 = 3 then
        if h140 192 15 < 60 then
          fX12_bad h140 192 1
        else
          if 62 < h140 192 15 then
            fX12_bad h140 192 1
          else
            (fX12_next h140 192).bind fun h233 =>
            if h233 192 12 = 2 then
              if 99 < h233 192 15 then
                fX12_bad h233 192 2
              else
                (fX12_code h233 192 l3 (h140 192 15) (h233 192 15)).bind fun h273 =>
                (fX12_next h273 192).bind fun h277 =>
                some (1, h277)
            else
              fX12_bad h233 192 1
      else
        fX12_bad h140 192 1
noncomputable def opTail (h85 : hH) (k lf : Int) : Option (Int × hH) := if k = 151 then fX12_operand_b115 h85 192 20 (h85 192 59) (h85 192 56) else if k = 40 then fX12_operand_b115 h85 192 23 (h85 192 59) (h85 192 56) else opLeaf (hup h85 192 61 1) lf
theorem operand_eq {g : hH} {j p o w : Int} (hg : SM B L M n K A V E j g) (p0 : 0 ≤ p) (p1 : p < 4096) (hp : K j = 4 → fX12_packOf g 192 = some p) (ho : g 192 58 = o) (hw : g 192 60 = w) : fX12_operand g 192 = if stOne (K j) then (if K j = 4 ∧ p = 0 then fX12_bad g 192 3 else if o = 20 then fX12_bad g 192 4 else if 8 < w then fX12_bad g 192 4 else (fX12_next (hup g 192 58 (w32 (o + 1))) 192).bind fun h85 => opTail h85 (K j) (lfK (K j) p)) else fX12_bad g 192 1 := by
  unfold fX12_operand
  rw [sw_w.2.2.2.2.2.1, isWordM hg (by decide) (by decide), isSignM hg (by unfold sgn; decide), leafOf_ok hg p0 p1 hp]
  simp only [Option.bind_some]
  have hb38 : ∀ l1 l2 : Int, (l1 = if K j = 128 + 23 then 1 else 0) → (l2 = if K j = 40 then 1 else 0) → stOne (K j) → fX12_operand_b38 g 192 l1 l2 (lfK (K j) p) = (if K j = 4 ∧ p = 0 then fX12_bad g 192 3 else if o = 20 then fX12_bad g 192 4 else if 8 < w then fX12_bad g 192 4 else (fX12_next (hup g 192 58 (w32 (o + 1))) 192).bind fun h85 => opTail h85 (K j) (lfK (K j) p)) := fun l1 l2 e1 e2 hs => by
    unfold fX12_operand_b38 fX12_operand_b68 fX12_operand_b96 fX12_operand_b220
    rw [ho, hw]
    simp only [bind_eta, pput, Option.bind_some]
    by_cases z : K j = 4 ∧ p = 0
    · rw [if_pos z, if_pos (show lfK (K j) p = 100 by unfold lfK; rw [if_neg (by omega), if_neg (by omega), if_neg (by omega), if_neg (by omega), if_neg (by omega), if_pos z.1, z.2]; rfl)]
    · have z' : ¬ lfK (K j) p = 100 := fun y => by
        unfold lfK at y
        by_cases a1 : K j = 152
        · rw [if_pos a1] at y; omega
        · rw [if_neg a1] at y
          by_cases a2 : K j = 153
          · rw [if_pos a2] at y; omega
          · rw [if_neg a2] at y
            by_cases a3 : K j = 154
            · rw [if_pos a3] at y; omega
            · rw [if_neg a3] at y
              by_cases a4 : K j = 155
              · rw [if_pos a4] at y; omega
              · rw [if_neg a4] at y
                by_cases a5 : K j = 156
                · rw [if_pos a5] at y; omega
                · rw [if_neg a5] at y
                  by_cases a6 : K j = 4
                  · rw [if_pos a6] at y; omega
                  · rw [if_neg a6] at y; omega
      rw [if_neg z, if_neg z']
      by_cases o20 : o = 20
      · rw [if_pos o20, if_pos o20]
      · rw [if_neg o20, if_neg o20]
        by_cases w8 : 8 < w
        · rw [if_pos w8, if_pos w8]
        · rw [if_neg w8, if_neg w8]
          congr 1
          funext h85
          unfold opTail opLeaf
          by_cases k1 : K j = 151
          · rw [e1, if_pos (show K j = 128 + 23 by omega), if_neg (show ¬ (1 : Int) = 0 by decide), if_neg (show ¬ (1 : Int) = 0 by decide), if_pos k1]
          · rw [e1, if_neg (show ¬ K j = 128 + 23 by omega), if_neg k1]
            simp only [if_true]
            by_cases k2 : K j = 40
            · rw [e2, if_pos k2, if_neg (show ¬ (1 : Int) = 0 by decide), if_pos k2]
            · rw [e2, if_neg k2, if_neg k2]
              simp only [if_true]
  by_cases hs : stOne (K j)
  · rw [if_pos hs]
    rw [hb38 _ _ rfl rfl hs]
    by_cases k1 : K j = 151
    · rw [if_pos (show K j = 128 + 23 by omega), if_neg (show ¬ (1 : Int) = 0 by decide)]
    · rw [if_neg (show ¬ K j = 128 + 23 by omega)]
      simp only [if_true]
      by_cases k2 : K j = 40
      · rw [if_pos k2, if_neg (show ¬ (1 : Int) = 0 by decide)]
      · rw [if_neg k2]
        simp only [if_true]
        rw [if_neg]
        unfold lfK
        by_cases a1 : K j = 152
        · rw [if_pos a1]; decide
        · rw [if_neg a1]
          by_cases a2 : K j = 153
          · rw [if_pos a2]; decide
          · rw [if_neg a2]
            by_cases a3 : K j = 154
            · rw [if_pos a3]; decide
            · rw [if_neg a3]
              by_cases a4 : K j = 155
              · rw [if_pos a4]; decide
              · rw [if_neg a4]
                by_cases a5 : K j = 156
                · rw [if_pos a5]; decide
                · rw [if_neg a5, if_pos (show K j = 4 by omega)]; omega
  · rw [if_neg hs, if_neg (show ¬ K j = 128 + 23 by omega), if_neg (show ¬ K j = 40 by omega)]
    have : lfK (K j) p = -1 := by
      unfold lfK
      rw [if_neg (by omega), if_neg (by omega), if_neg (by omega), if_neg (by omega), if_neg (by omega), if_neg (by omega)]
    rw [this, if_pos (show (0 : Int) = 0 from rfl), if_pos (show (0 : Int) = 0 from rfl), if_pos (show (-1 : Int) < 0 by decide), bind_eta]
theorem starts1_ok {h : hH} {a : Int} : fX7_startsOne h a = some (if stOne a then 1 else 0) := by
  unfold fX7_startsOne fX7_startsOne_b53
  by_cases a1 : a = 4
  · rw [if_pos a1, if_pos (by omega)]
  · rw [if_neg a1]
    by_cases a2 : a = 151
    · rw [if_pos a2, if_pos (by omega)]
    · rw [if_neg a2]
      by_cases a3 : a = 40
      · rw [if_pos a3, if_pos (by omega)]
      · rw [if_neg a3]
        by_cases a4 : a = 152
        · rw [if_pos a4, if_pos (by omega)]
        · rw [if_neg a4]
          by_cases a5 : a = 153
          · rw [if_pos a5, if_pos (by omega)]
          · rw [if_neg a5]
            by_cases a6 : a = 154
            · rw [if_pos a6, if_pos (by omega)]
            · rw [if_neg a6]
              by_cases a7 : a = 155
              · rw [if_pos a7, if_pos (by omega)]
              · rw [if_neg a7]
                by_cases a8 : a = 156
                · rw [if_pos a8, if_pos (by omega)]
                · rw [if_neg a8, if_neg (by omega)]
noncomputable def rdTail (one : hH → Int → Int → Option (Int × hH)) (h110 : hH) (k cols w : Int) : Option (Int × hH) :=
  if k = 4 then fX7_readComparison h110 34 cols
  else if k = 40 then
    (fX7_readCond one h110 34 (w32 (w + 1))).bind fun q194 =>
    if q194.1 = 0 then some (0, q194.2)
    else (fX9_take q194.2 (q194.2 34 0) 41).bind fun q206 => if q206.1 = 0 then some (0, q206.2) else some (1, q206.2)
  else if k = 151 then
    (one h110 34 (w32 (w + 1))).bind fun q168 => if q168.1 = 0 then some (0, q168.2) else (fX6_add q168.2 (q168.2 34 2) 151 0 0).bind fun h185 => some (1, h185)
  else if k = 155 then
    (fX9_takeTable h110 (h110 34 0) (h110 34 1)).bind fun q226 => (fX6_add q226.2 (q226.2 34 2) 155 q226.1 0).bind fun h241 => if q226.1 = -1 then some (0, h241) else some (1, h241)
  else if k = 156 then fX7_readComparison h110 34 156
  else (fX6_add h110 (h110 34 2) k 0 0).bind fun h277 => some (1, h277)
theorem readOneG_eq {one : hH → Int → Int → Option (Int × hH)} {c : hH} {j p o w : Int} (hc : SC n K A V j c) (hp : K j = 4 → fX6_colsNamed c 4 (V j) = some (-p)) (ho : c 35 1 = o) : fX7_readOneG one c 34 w = if stOne (K j) then (if K j = 4 ∧ p = 0 then fX9_fail c 1 3 else if o < 20 then (if 8 < w then fX9_fail c 1 4 else (fX9_step (hup c 35 1 (w32 (o + 1))) 1).bind fun h110 => rdTail one h110 (K j) (if K j = 4 then -p else 0) w) else fX9_fail c 1 4) else fX9_fail c 1 1 := by
  have L1 : Lay (hup c 35 1 (w32 (o + 1))) := hc.1.upF (by decide)
  have hb66 : ∀ l3, fX7_readOneG_b66 one c 34 w (K j) l3 = if o < 20 then (if 8 < w then fX9_fail c 1 4 else (fX9_step (hup c 35 1 (w32 (o + 1))) 1).bind fun h110 => rdTail one h110 (K j) l3 w) else fX9_fail c 1 4 := fun l3 => by
    unfold fX7_readOneG_b66 fX7_readOneG_b84
    rw [ly_34_2 hc.1, ho, ly_34_0 hc.1]
    simp only [pput, Option.bind_some]
    rw [ly_34_0 L1]
    unfold rdTail
    simp only [bind_eta]
  unfold fX7_readOneG fX7_readOneG_b47
  rw [ly_34_0 hc.1, hc.k, starts1_ok]
  simp only [Option.bind_some]
  by_cases hs : stOne (K j)
  · rw [if_pos hs, if_pos hs, if_neg (show ¬ (1 : Int) = 0 by decide)]
    by_cases k4 : K j = 4
    · rw [if_pos k4, if_pos k4, ly_34_1 hc.1, hc.v, hp k4]
      simp only [Option.bind_some]
      by_cases z : p = 0
      · rw [if_pos k4, if_pos (show -p = 0 by omega), if_pos ⟨k4, z⟩, bind_eta]
      · rw [if_pos k4, if_neg (show ¬ -p = 0 by omega), if_neg (show ¬ (K j = 4 ∧ p = 0) from fun y => z y.2), hb66]
    · rw [if_neg k4, if_neg k4, if_neg k4, if_neg (show ¬ (K j = 4 ∧ p = 0) from fun y => k4 y.1), hb66]
  · rw [if_neg hs, if_neg hs, if_pos (show (0 : Int) = 0 from rfl), bind_eta]
end SIM
