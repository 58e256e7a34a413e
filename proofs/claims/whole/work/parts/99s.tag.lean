/-! TAG: shifts of words, bytes written -/
theorem lus5_0 {a : Nat} (ha : a < 9223372036854775808) : lusD (a : Int) 0 = ((a / 1 : Nat) : Int) := by
  unfold lusD
  have e : (((Int64.ofInt (a : Int)).toUInt64 >>> ((Int32.ofInt (0 : Int)).toInt64.toUInt64 &&& Int64.toUInt64 63)).toInt64).toBitVec.toNat = a / 1 := by
    have : (((Int64.ofInt (a : Int)).toUInt64 >>> ((Int32.ofInt (0 : Int)).toInt64.toUInt64 &&& Int64.toUInt64 63)).toInt64).toBitVec = (Int64.ofInt (a : Int)).toBitVec >>> (0 : Nat) := rfl
    rw [this, BitVec.toNat_ushiftRight, i64_nat ha, Nat.shiftRight_eq_div_pow]
  have hl : a / 1 ≤ a := Nat.div_le_self _ _
  rw [i64_int e (by omega), w64_id (by omega) (by omega)]
theorem lus5_1 {a : Nat} (ha : a < 9223372036854775808) : lusD (a : Int) 5 = ((a / 32 : Nat) : Int) := by
  unfold lusD
  have e : (((Int64.ofInt (a : Int)).toUInt64 >>> ((Int32.ofInt (5 : Int)).toInt64.toUInt64 &&& Int64.toUInt64 63)).toInt64).toBitVec.toNat = a / 32 := by
    have : (((Int64.ofInt (a : Int)).toUInt64 >>> ((Int32.ofInt (5 : Int)).toInt64.toUInt64 &&& Int64.toUInt64 63)).toInt64).toBitVec = (Int64.ofInt (a : Int)).toBitVec >>> (5 : Nat) := rfl
    rw [this, BitVec.toNat_ushiftRight, i64_nat ha, Nat.shiftRight_eq_div_pow]
  have hl : a / 32 ≤ a := Nat.div_le_self _ _
  rw [i64_int e (by omega), w64_id (by omega) (by omega)]
theorem lus5_2 {a : Nat} (ha : a < 9223372036854775808) : lusD (a : Int) 10 = ((a / 1024 : Nat) : Int) := by
  unfold lusD
  have e : (((Int64.ofInt (a : Int)).toUInt64 >>> ((Int32.ofInt (10 : Int)).toInt64.toUInt64 &&& Int64.toUInt64 63)).toInt64).toBitVec.toNat = a / 1024 := by
    have : (((Int64.ofInt (a : Int)).toUInt64 >>> ((Int32.ofInt (10 : Int)).toInt64.toUInt64 &&& Int64.toUInt64 63)).toInt64).toBitVec = (Int64.ofInt (a : Int)).toBitVec >>> (10 : Nat) := rfl
    rw [this, BitVec.toNat_ushiftRight, i64_nat ha, Nat.shiftRight_eq_div_pow]
  have hl : a / 1024 ≤ a := Nat.div_le_self _ _
  rw [i64_int e (by omega), w64_id (by omega) (by omega)]
theorem lus5_3 {a : Nat} (ha : a < 9223372036854775808) : lusD (a : Int) 15 = ((a / 32768 : Nat) : Int) := by
  unfold lusD
  have e : (((Int64.ofInt (a : Int)).toUInt64 >>> ((Int32.ofInt (15 : Int)).toInt64.toUInt64 &&& Int64.toUInt64 63)).toInt64).toBitVec.toNat = a / 32768 := by
    have : (((Int64.ofInt (a : Int)).toUInt64 >>> ((Int32.ofInt (15 : Int)).toInt64.toUInt64 &&& Int64.toUInt64 63)).toInt64).toBitVec = (Int64.ofInt (a : Int)).toBitVec >>> (15 : Nat) := rfl
    rw [this, BitVec.toNat_ushiftRight, i64_nat ha, Nat.shiftRight_eq_div_pow]
  have hl : a / 32768 ≤ a := Nat.div_le_self _ _
  rw [i64_int e (by omega), w64_id (by omega) (by omega)]
theorem lus5_4 {a : Nat} (ha : a < 9223372036854775808) : lusD (a : Int) 20 = ((a / 1048576 : Nat) : Int) := by
  unfold lusD
  have e : (((Int64.ofInt (a : Int)).toUInt64 >>> ((Int32.ofInt (20 : Int)).toInt64.toUInt64 &&& Int64.toUInt64 63)).toInt64).toBitVec.toNat = a / 1048576 := by
    have : (((Int64.ofInt (a : Int)).toUInt64 >>> ((Int32.ofInt (20 : Int)).toInt64.toUInt64 &&& Int64.toUInt64 63)).toInt64).toBitVec = (Int64.ofInt (a : Int)).toBitVec >>> (20 : Nat) := rfl
    rw [this, BitVec.toNat_ushiftRight, i64_nat ha, Nat.shiftRight_eq_div_pow]
  have hl : a / 1048576 ≤ a := Nat.div_le_self _ _
  rw [i64_int e (by omega), w64_id (by omega) (by omega)]
theorem lus5_5 {a : Nat} (ha : a < 9223372036854775808) : lusD (a : Int) 25 = ((a / 33554432 : Nat) : Int) := by
  unfold lusD
  have e : (((Int64.ofInt (a : Int)).toUInt64 >>> ((Int32.ofInt (25 : Int)).toInt64.toUInt64 &&& Int64.toUInt64 63)).toInt64).toBitVec.toNat = a / 33554432 := by
    have : (((Int64.ofInt (a : Int)).toUInt64 >>> ((Int32.ofInt (25 : Int)).toInt64.toUInt64 &&& Int64.toUInt64 63)).toInt64).toBitVec = (Int64.ofInt (a : Int)).toBitVec >>> (25 : Nat) := rfl
    rw [this, BitVec.toNat_ushiftRight, i64_nat ha, Nat.shiftRight_eq_div_pow]
  have hl : a / 33554432 ≤ a := Nat.div_le_self _ _
  rw [i64_int e (by omega), w64_id (by omega) (by omega)]
theorem lus5_6 {a : Nat} (ha : a < 9223372036854775808) : lusD (a : Int) 30 = ((a / 1073741824 : Nat) : Int) := by
  unfold lusD
  have e : (((Int64.ofInt (a : Int)).toUInt64 >>> ((Int32.ofInt (30 : Int)).toInt64.toUInt64 &&& Int64.toUInt64 63)).toInt64).toBitVec.toNat = a / 1073741824 := by
    have : (((Int64.ofInt (a : Int)).toUInt64 >>> ((Int32.ofInt (30 : Int)).toInt64.toUInt64 &&& Int64.toUInt64 63)).toInt64).toBitVec = (Int64.ofInt (a : Int)).toBitVec >>> (30 : Nat) := rfl
    rw [this, BitVec.toNat_ushiftRight, i64_nat ha, Nat.shiftRight_eq_div_pow]
  have hl : a / 1073741824 ≤ a := Nat.div_le_self _ _
  rw [i64_int e (by omega), w64_id (by omega) (by omega)]
theorem lsr8_0 {a : Nat} (ha : a < 9223372036854775808) : lsrD (a : Int) 0 = ((a / 1 : Nat) : Int) := by
  unfold lsrD
  have e : (Int64.ofInt (a : Int) >>> ((Int32.ofInt (0 : Int)).toInt64 &&& 63)).toBitVec = (Int64.ofInt (a : Int)).toBitVec.sshiftRight (0 : Nat) := rfl
  have e2 : (Int64.ofInt (a : Int) >>> ((Int32.ofInt (0 : Int)).toInt64 &&& 63)).toInt = ((a / 1 : Nat) : Int) := by
    show BitVec.toInt (Int64.toBitVec _) = _
    rw [e, BitVec.toInt_sshiftRight]
    have e3 : (Int64.ofInt (a : Int)).toBitVec.toInt = (a : Int) := i64_int (i64_nat ha) ha
    rw [e3, Int.shiftRight_eq_div_pow]
    omega
  have hl : a / 1 ≤ a := Nat.div_le_self _ _
  rw [e2, w64_id (by omega) (by omega)]
theorem lsr8_1 {a : Nat} (ha : a < 9223372036854775808) : lsrD (a : Int) 8 = ((a / 256 : Nat) : Int) := by
  unfold lsrD
  have e : (Int64.ofInt (a : Int) >>> ((Int32.ofInt (8 : Int)).toInt64 &&& 63)).toBitVec = (Int64.ofInt (a : Int)).toBitVec.sshiftRight (8 : Nat) := rfl
  have e2 : (Int64.ofInt (a : Int) >>> ((Int32.ofInt (8 : Int)).toInt64 &&& 63)).toInt = ((a / 256 : Nat) : Int) := by
    show BitVec.toInt (Int64.toBitVec _) = _
    rw [e, BitVec.toInt_sshiftRight]
    have e3 : (Int64.ofInt (a : Int)).toBitVec.toInt = (a : Int) := i64_int (i64_nat ha) ha
    rw [e3, Int.shiftRight_eq_div_pow]
    omega
  have hl : a / 256 ≤ a := Nat.div_le_self _ _
  rw [e2, w64_id (by omega) (by omega)]
theorem lsr8_2 {a : Nat} (ha : a < 9223372036854775808) : lsrD (a : Int) 16 = ((a / 65536 : Nat) : Int) := by
  unfold lsrD
  have e : (Int64.ofInt (a : Int) >>> ((Int32.ofInt (16 : Int)).toInt64 &&& 63)).toBitVec = (Int64.ofInt (a : Int)).toBitVec.sshiftRight (16 : Nat) := rfl
  have e2 : (Int64.ofInt (a : Int) >>> ((Int32.ofInt (16 : Int)).toInt64 &&& 63)).toInt = ((a / 65536 : Nat) : Int) := by
    show BitVec.toInt (Int64.toBitVec _) = _
    rw [e, BitVec.toInt_sshiftRight]
    have e3 : (Int64.ofInt (a : Int)).toBitVec.toInt = (a : Int) := i64_int (i64_nat ha) ha
    rw [e3, Int.shiftRight_eq_div_pow]
    omega
  have hl : a / 65536 ≤ a := Nat.div_le_self _ _
  rw [e2, w64_id (by omega) (by omega)]
theorem lsr8_3 {a : Nat} (ha : a < 9223372036854775808) : lsrD (a : Int) 24 = ((a / 16777216 : Nat) : Int) := by
  unfold lsrD
  have e : (Int64.ofInt (a : Int) >>> ((Int32.ofInt (24 : Int)).toInt64 &&& 63)).toBitVec = (Int64.ofInt (a : Int)).toBitVec.sshiftRight (24 : Nat) := rfl
  have e2 : (Int64.ofInt (a : Int) >>> ((Int32.ofInt (24 : Int)).toInt64 &&& 63)).toInt = ((a / 16777216 : Nat) : Int) := by
    show BitVec.toInt (Int64.toBitVec _) = _
    rw [e, BitVec.toInt_sshiftRight]
    have e3 : (Int64.ofInt (a : Int)).toBitVec.toInt = (a : Int) := i64_int (i64_nat ha) ha
    rw [e3, Int.shiftRight_eq_div_pow]
    omega
  have hl : a / 16777216 ≤ a := Nat.div_le_self _ _
  rw [e2, w64_id (by omega) (by omega)]
theorem lsr8_4 {a : Nat} (ha : a < 9223372036854775808) : lsrD (a : Int) 32 = ((a / 4294967296 : Nat) : Int) := by
  unfold lsrD
  have e : (Int64.ofInt (a : Int) >>> ((Int32.ofInt (32 : Int)).toInt64 &&& 63)).toBitVec = (Int64.ofInt (a : Int)).toBitVec.sshiftRight (32 : Nat) := rfl
  have e2 : (Int64.ofInt (a : Int) >>> ((Int32.ofInt (32 : Int)).toInt64 &&& 63)).toInt = ((a / 4294967296 : Nat) : Int) := by
    show BitVec.toInt (Int64.toBitVec _) = _
    rw [e, BitVec.toInt_sshiftRight]
    have e3 : (Int64.ofInt (a : Int)).toBitVec.toInt = (a : Int) := i64_int (i64_nat ha) ha
    rw [e3, Int.shiftRight_eq_div_pow]
    omega
  have hl : a / 4294967296 ≤ a := Nat.div_le_self _ _
  rw [e2, w64_id (by omega) (by omega)]
theorem lsr8_5 {a : Nat} (ha : a < 9223372036854775808) : lsrD (a : Int) 40 = ((a / 1099511627776 : Nat) : Int) := by
  unfold lsrD
  have e : (Int64.ofInt (a : Int) >>> ((Int32.ofInt (40 : Int)).toInt64 &&& 63)).toBitVec = (Int64.ofInt (a : Int)).toBitVec.sshiftRight (40 : Nat) := rfl
  have e2 : (Int64.ofInt (a : Int) >>> ((Int32.ofInt (40 : Int)).toInt64 &&& 63)).toInt = ((a / 1099511627776 : Nat) : Int) := by
    show BitVec.toInt (Int64.toBitVec _) = _
    rw [e, BitVec.toInt_sshiftRight]
    have e3 : (Int64.ofInt (a : Int)).toBitVec.toInt = (a : Int) := i64_int (i64_nat ha) ha
    rw [e3, Int.shiftRight_eq_div_pow]
    omega
  have hl : a / 1099511627776 ≤ a := Nat.div_le_self _ _
  rw [e2, w64_id (by omega) (by omega)]
theorem lsr8_6 {a : Nat} (ha : a < 9223372036854775808) : lsrD (a : Int) 48 = ((a / 281474976710656 : Nat) : Int) := by
  unfold lsrD
  have e : (Int64.ofInt (a : Int) >>> ((Int32.ofInt (48 : Int)).toInt64 &&& 63)).toBitVec = (Int64.ofInt (a : Int)).toBitVec.sshiftRight (48 : Nat) := rfl
  have e2 : (Int64.ofInt (a : Int) >>> ((Int32.ofInt (48 : Int)).toInt64 &&& 63)).toInt = ((a / 281474976710656 : Nat) : Int) := by
    show BitVec.toInt (Int64.toBitVec _) = _
    rw [e, BitVec.toInt_sshiftRight]
    have e3 : (Int64.ofInt (a : Int)).toBitVec.toInt = (a : Int) := i64_int (i64_nat ha) ha
    rw [e3, Int.shiftRight_eq_div_pow]
    omega
  have hl : a / 281474976710656 ≤ a := Nat.div_le_self _ _
  rw [e2, w64_id (by omega) (by omega)]
theorem lsr8_7 {a : Nat} (ha : a < 9223372036854775808) : lsrD (a : Int) 56 = ((a / 72057594037927936 : Nat) : Int) := by
  unfold lsrD
  have e : (Int64.ofInt (a : Int) >>> ((Int32.ofInt (56 : Int)).toInt64 &&& 63)).toBitVec = (Int64.ofInt (a : Int)).toBitVec.sshiftRight (56 : Nat) := rfl
  have e2 : (Int64.ofInt (a : Int) >>> ((Int32.ofInt (56 : Int)).toInt64 &&& 63)).toInt = ((a / 72057594037927936 : Nat) : Int) := by
    show BitVec.toInt (Int64.toBitVec _) = _
    rw [e, BitVec.toInt_sshiftRight]
    have e3 : (Int64.ofInt (a : Int)).toBitVec.toInt = (a : Int) := i64_int (i64_nat ha) ha
    rw [e3, Int.shiftRight_eq_div_pow]
    omega
  have hl : a / 72057594037927936 ≤ a := Nat.div_le_self _ _
  rw [e2, w64_id (by omega) (by omega)]
theorem iad31 (y : Nat) : iadD (w32 (y : Int)) 31 = ((y % 32 : Nat) : Int) := by
  unfold iadD
  rw [show Int32.ofInt (w32 (y : Int)) = Int32.ofInt (y : Int) from Int32.ofInt_toInt _]
  have e : (Int32.ofInt (y : Int) &&& Int32.ofInt 31).toBitVec.toNat = y % 32 := by
    rw [Int32.toBitVec_and, BitVec.toNat_and]
    have e1 : (Int32.ofInt (y : Int)).toBitVec.toNat = y % 4294967296 := by
      have : (Int32.ofInt (y : Int)).toBitVec = BitVec.ofInt 32 (y : Int) := rfl
      rw [this, BitVec.toNat_ofInt]
      omega
    have e2 : (Int32.ofInt (31 : Int)).toBitVec.toNat = 2 ^ 5 - 1 := rfl
    rw [e1, e2, Nat.and_two_pow_sub_one_eq_mod]
    omega
  have e3 : (Int32.ofInt (y : Int) &&& Int32.ofInt 31).toInt = ((y % 32 : Nat) : Int) := by
    show BitVec.toInt (Int32.toBitVec _) = _
    rw [BitVec.toInt_eq_toNat_of_lt (by rw [e]; omega), e]
  rw [e3]
  exact w32_id (by omega) (by omega)
theorem land255 {y : Nat} (hy : y < 9223372036854775808) : landD (y : Int) 255 = ((y % 256 : Nat) : Int) := by
  have := land_nat (a := y) (b := 255) hy (by decide)
  rw [show ((255 : Nat) : Int) = 255 from rfl] at this
  rw [this, show (255 : Nat) = 2 ^ 8 - 1 from rfl, Nat.and_two_pow_sub_one_eq_mod]
/-- digits of words -/
theorem r32_dig : ∀ (k : Nat) {ls : List Int}, LtOk ls → r32 ls / 32 ^ k % 32 = ls.getD k 0
  | k, [], _ => by
    show (0 : Int) / 32 ^ k % 32 = _
    rw [Int.zero_ediv]
    simp
  | 0, l :: ls, h => by
    have hl := h l List.mem_cons_self
    show (r32 ls * 32 + l) / 1 % 32 = l
    omega
  | k + 1, l :: ls, h => by
    have hl := h l List.mem_cons_self
    have ih := r32_dig k (ls := ls) (fun x hx => h x (List.mem_cons_of_mem _ hx))
    show (r32 ls * 32 + l) / 32 ^ (k + 1) % 32 = ls.getD k 0
    rw [Int.pow_succ, Int.mul_comm (32 ^ k) 32, ← Int.ediv_ediv_of_nonneg (by decide), show (r32 ls * 32 + l) / 32 = r32 ls by omega]
    exact ih
theorem r256_dig : ∀ (k : Nat) {ls : List Int}, LtOk ls → r256 ls / 256 ^ k % 256 = if ls.getD k 0 = 0 then 0 else 96 + ls.getD k 0
  | k, [], _ => by
    show (0 : Int) / 256 ^ k % 256 = _
    rw [Int.zero_ediv]
    simp
  | 0, l :: ls, h => by
    have hl := h l List.mem_cons_self
    show (r256 ls * 256 + (96 + l)) / 1 % 256 = if l = 0 then 0 else 96 + l
    rw [if_neg (by omega)]
    omega
  | k + 1, l :: ls, h => by
    have hl := h l List.mem_cons_self
    have ih := r256_dig k (ls := ls) (fun x hx => h x (List.mem_cons_of_mem _ hx))
    show (r256 ls * 256 + (96 + l)) / 256 ^ (k + 1) % 256 = if ls.getD k 0 = 0 then 0 else 96 + ls.getD k 0
    rw [Int.pow_succ, Int.mul_comm (256 ^ k) 256, ← Int.ediv_ediv_of_nonneg (by decide), show (r256 ls * 256 + (96 + l)) / 256 = r256 ls by omega]
    exact ih
/-- what was written so far -/
def WC (c : hH) (L : List Int) : Prop := Lay c ∧ c 0 15 = L.length ∧ L.length ≤ 24 ∧ ∀ (i : Nat) (x : Int), L[i]? = some x → c 77 i = x ∧ 0 ≤ x ∧ x < 128
def WM (g : hH) (L : List Int) : Prop := Lay g ∧ g 192 50 = L.length ∧ ∀ (i : Nat) (x : Int), L[i]? = some x → g 216 i = x
def tgC (a b : Int) : Bool := (a == 0 && b == 15) || (a == 77 && decide (0 ≤ b))
def tgM (a b : Int) : Bool := (a == 192 && b == 50) || (a == 216 && decide (0 ≤ b))
theorem tgC_row {c c' : hH} (hf : Fr tgC c c') {a : Int} (h1 : a ≠ 0) (h2 : a ≠ 77) : c' a = c a := hf.row a (fun b => by unfold tgC; simp; omega)
theorem tgM_row {c c' : hH} (hf : Fr tgM c c') {a : Int} (h1 : a ≠ 192) (h2 : a ≠ 216) : c' a = c a := hf.row a (fun b => by unfold tgM; simp; omega)
theorem i2b_tab : ∀ b : Fin 128, i2bD (i2bD (b.1 : Int)) = b.1 := by decide +kernel
theorem i2b_id {b : Int} (b0 : 0 ≤ b) (b1 : b < 128) : i2bD (i2bD b) = b := by
  have := i2b_tab ⟨b.toNat, by omega⟩
  dsimp only at this
  rw [show ((b.toNat : Nat) : Int) = b by omega] at this
  exact this
theorem wbC {c : hH} {L : List Int} {b : Int} (hW : WC c L) (hl : L.length < 24) (b0 : 0 ≤ b) (b1 : b < 128) : ∃ c', fX11_writeByte c 0 b = some c' ∧ WC c' (L ++ [b]) ∧ Fr tgC c c' := by
  obtain ⟨Lc, h1, h2, h3⟩ := hW
  have La : Lay (hup c 77 L.length b) := Lc.upA (by decide) (by omega)
  refine ⟨hup (hup c 77 L.length b) 0 15 (L.length + 1), ?_, ⟨La.upF (by decide), ?_, ?_, fun i x hx => ?_⟩, (Fr.up (by unfold tgC; simp)).tr (Fr.up (by decide))⟩
  · unfold fX11_writeByte
    rw [h1, if_neg (by omega), ly_0_14 Lc, if_pos (by rw [ll_77 Lc]; omega), aput_in (by omega) (by rw [ll_77 Lc]; omega), i2b_id b0 b1]
    simp only [Option.bind_some, pput]
    rw [hup_off (a := 0) (by decide), h1, w32_id (by omega) (by omega)]
  · rw [hup_at, List.length_append]
    simp
  · rw [List.length_append]
    simp
    omega
  · rw [hup_off (by decide)]
    by_cases e : i < L.length
    · rw [List.getElem?_append_left e] at hx
      rw [hup_ne (by omega)]
      exact h3 i x hx
    · have e2 : i = L.length := by
        have := (List.getElem?_eq_some_iff.mp hx).1
        rw [List.length_append] at this
        simp at this
        omega
      rw [e2, List.getElem?_append_right (Nat.le_refl _), Nat.sub_self] at hx
      injection hx with hx
      rw [e2, hup_at, ← hx]
      exact ⟨rfl, b0, b1⟩
theorem wbM {g : hH} {L : List Int} {b : Int} (hW : WM g L) (hl : L.length < 30) (b0 : 0 ≤ b) (b1 : b < 128) : ∃ g', fX12_lays g 192 b = some g' ∧ WM g' (L ++ [b]) ∧ Fr tgM g g' := by
  obtain ⟨Lc, h1, h3⟩ := hW
  have La : Lay (hup g 216 L.length b) := Lc.upA (by decide) (by omega)
  refine ⟨hup (hup g 216 L.length b) 192 50 (L.length + 1), ?_, ⟨La.upF (by decide), ?_, fun i x hx => ?_⟩, (Fr.up (by unfold tgM; simp)).tr (Fr.up (by decide))⟩
  · unfold fX12_lays
    rw [h1, ly_192_49 Lc, aput_in (by omega) (by rw [ll_216 Lc]; omega), i2b_id b0 b1]
    simp only [Option.bind_some, pput]
    rw [hup_off (a := 192) (by decide), h1, w32_id (by omega) (by omega)]
  · rw [hup_at, List.length_append]
    simp
  · rw [hup_off (by decide)]
    by_cases e : i < L.length
    · rw [List.getElem?_append_left e] at hx
      rw [hup_ne (by omega)]
      exact h3 i x hx
    · have e2 : i = L.length := by
        have := (List.getElem?_eq_some_iff.mp hx).1
        rw [List.length_append] at this
        simp at this
        omega
      rw [e2, List.getElem?_append_right (Nat.le_refl _), Nat.sub_self] at hx
      injection hx with hx
      rw [e2, hup_at, ← hx]
def numB (v : Int) : List Int := if v < 0 then [45] else if 9 < v then [48 + v / 10, 48 + v % 10] else [48 + v % 10]
theorem numB_len (v : Int) : (numB v).length ≤ 2 := by
  unfold numB
  split
  · decide
  · split <;> simp
theorem wnC {c : hH} {L : List Int} {v : Int} (hW : WC c L) (hl : L.length + 2 ≤ 24) (v0 : -1 ≤ v) (v1 : v ≤ 99) : ∃ c', fX11_writeNumber c 0 v = some c' ∧ WC c' (L ++ numB v) ∧ Fr tgC c c' := by
  unfold fX11_writeNumber fX11_writeNumber_b28 numB gdz
  by_cases a : v < 0
  · rw [if_pos a, if_pos a]
    obtain ⟨c1, x1, x2, x3⟩ := wbC (b := 45) hW (by omega) (by decide) (by decide)
    rw [x1]
    exact ⟨c1, rfl, x2, x3⟩
  · rw [if_neg a, if_neg a]
    obtain ⟨m1, m2⟩ := irm_ok (a := v) (b := 10) (by omega) (by omega) (by decide) (by decide)
    rw [m1, m2, if_neg (show ¬ (10 : Int) = 0 by decide)]
    simp only [Option.bind_some]
    rw [w32_id (x := 48 + v % 10) (by omega) (by omega), w32_id (x := 48 + v / 10) (by omega) (by omega)]
    by_cases b : 9 < v
    · rw [if_pos b, if_pos b]
      obtain ⟨c1, x1, x2, x3⟩ := wbC (b := 48 + v / 10) hW (by omega) (by omega) (by omega)
      obtain ⟨c2, y1, y2, y3⟩ := wbC (b := 48 + v % 10) x2 (by rw [List.length_append]; simp; omega) (by omega) (by omega)
      rw [x1]
      simp only [Option.bind_some]
      rw [y1]
      refine ⟨c2, rfl, ?_, x3.tr y3⟩
      rw [List.append_assoc] at y2
      exact y2
    · rw [if_neg b, if_neg b]
      obtain ⟨c1, x1, x2, x3⟩ := wbC (b := 48 + v % 10) hW (by omega) (by omega) (by omega)
      rw [x1]
      exact ⟨c1, rfl, x2, x3⟩
theorem wnM {g : hH} {L : List Int} {v : Int} (hW : WM g L) (hl : L.length + 3 ≤ 30) (v0 : -1 ≤ v) (v1 : v ≤ 99) : ∃ g', fX12_laysNumber g 192 v = some g' ∧ WM g' (L ++ [32] ++ numB v) ∧ Fr tgM g g' := by
  obtain ⟨g0, z1, z2, z3⟩ := wbM (b := 32) hW (by omega) (by decide) (by decide)
  have zl : (L ++ [(32 : Int)]).length = L.length + 1 := by rw [List.length_append]; rfl
  unfold fX12_laysNumber fX12_laysNumber_b34 numB gdz
  rw [z1]
  simp only [Option.bind_some]
  by_cases a : v < 0
  · rw [if_pos a, if_pos a]
    obtain ⟨c1, x1, x2, x3⟩ := wbM (b := 45) z2 (by omega) (by decide) (by decide)
    rw [x1]
    exact ⟨c1, rfl, x2, z3.tr x3⟩
  · rw [if_neg a, if_neg a]
    obtain ⟨m1, m2⟩ := irm_ok (a := v) (b := 10) (by omega) (by omega) (by decide) (by decide)
    rw [m1, m2, if_neg (show ¬ (10 : Int) = 0 by decide)]
    simp only [Option.bind_some]
    rw [w32_id (x := 48 + v % 10) (by omega) (by omega), w32_id (x := 48 + v / 10) (by omega) (by omega)]
    by_cases b : 9 < v
    · rw [if_pos b, if_pos b]
      obtain ⟨c1, x1, x2, x3⟩ := wbM (b := 48 + v / 10) z2 (by omega) (by omega) (by omega)
      obtain ⟨c2, y1, y2, y3⟩ := wbM (b := 48 + v % 10) x2 (by rw [List.length_append, zl]; simp; omega) (by omega) (by omega)
      rw [x1]
      simp only [Option.bind_some]
      rw [y1]
      refine ⟨c2, rfl, ?_, z3.tr (x3.tr y3)⟩
      rw [List.append_assoc (L ++ [32])] at y2
      exact y2
    · rw [if_neg b, if_neg b]
      obtain ⟨c1, x1, x2, x3⟩ := wbM (b := 48 + v % 10) z2 (by omega) (by omega) (by omega)
      rw [x1]
      exact ⟨c1, rfl, x2, z3.tr x3⟩
/-- a letter of a word, if there is one -/
def ltB (d : Int) : List Int := if d = 0 then [] else [96 + d]
theorem ltB_len (d : Int) : (ltB d).length ≤ 1 := by
  unfold ltB
  split <;> simp
theorem getD_b {ls : List Int} (h : LtOk ls) (k : Nat) : 0 ≤ ls.getD k 0 ∧ ls.getD k 0 ≤ 26 := by
  by_cases e : k < ls.length
  · have : ls.getD k 0 ∈ ls := by
      rw [List.getD_eq_getElem?_getD, List.getElem?_eq_getElem e]
      exact List.getElem_mem e
    have := h _ this
    omega
  · rw [List.getD_eq_getElem?_getD, List.getElem?_eq_none (by omega)]
    simp
theorem wordC_s {x0 c : hH} {L ls : List Int} {w s s' : Int} (hs : s + (-5) = s') (hW : WC c L) (hl : L.length < 24) (hls : LtOk ls) (k : Nat) (s0 : 0 ≤ s) (s1 : s ≤ 30) (he : iadD (w32 (lusD w s)) 31 = ls.getD k 0) : ∃ c', fX11_writeWord_s3 x0 0 w (c, s) = some (.inl (c', s')) ∧ WC c' (L ++ ltB (ls.getD k 0)) ∧ Fr tgC c c' := by
  have hb := getD_b hls k
  unfold fX11_writeWord_s3 ltB
  dsimp only
  rw [if_neg (by omega), he, w32_id (x := s + (-5)) (by omega) (by omega), hs]
  by_cases z : ls.getD k 0 = 0
  · rw [if_pos z, if_pos z]
    exact ⟨c, rfl, by rw [List.append_nil]; exact hW, Fr.rf⟩
  · rw [if_neg z, if_neg z, w32_id (x := 96 + ls.getD k 0) (by omega) (by omega)]
    obtain ⟨c1, x1, x2, x3⟩ := wbC (b := 96 + ls.getD k 0) hW hl (by omega) (by omega)
    rw [x1]
    exact ⟨c1, rfl, x2, x3⟩
theorem wordM_s {x0 g : hH} {L ls : List Int} {w s s' : Int} (hs : s + (-8) = s') (hW : WM g L) (hl : L.length < 30) (hls : LtOk ls) (k : Nat) (s0 : 0 ≤ s) (s1 : s ≤ 56) (he : landD (lsrD w s) 255 = if ls.getD k 0 = 0 then 0 else 96 + ls.getD k 0) : ∃ g', fX12_spells_s3 x0 192 w (g, s) = some (.inl (g', s')) ∧ WM g' (L ++ ltB (ls.getD k 0)) ∧ Fr tgM g g' := by
  have hb := getD_b hls k
  unfold fX12_spells_s3 ltB
  dsimp only
  rw [if_neg (by omega), he, w32_id (x := s + (-8)) (by omega) (by omega), hs]
  by_cases z : ls.getD k 0 = 0
  · rw [if_pos z, if_pos z, if_pos (lcm0.mpr rfl)]
    exact ⟨g, rfl, by rw [List.append_nil]; exact hW, Fr.rf⟩
  · rw [if_neg z, if_neg z, if_neg (fun y => by have := lcm0.mp y; omega), w32_id (x := 96 + ls.getD k 0) (by omega) (by omega)]
    obtain ⟨c1, x1, x2, x3⟩ := wbM (b := 96 + ls.getD k 0) hW hl (by omega) (by omega)
    rw [x1]
    exact ⟨c1, rfl, x2, x3⟩
def wrdB (ls : List Int) : List Int := ltB (ls.getD 6 0) ++ ltB (ls.getD 5 0) ++ ltB (ls.getD 4 0) ++ ltB (ls.getD 3 0) ++ ltB (ls.getD 2 0) ++ ltB (ls.getD 1 0) ++ ltB (ls.getD 0 0)
theorem wrdB_len (ls : List Int) : (wrdB ls).length ≤ 7 := by
  unfold wrdB
  simp only [List.length_append]
  have := ltB_len (ls.getD 6 0)
  have := ltB_len (ls.getD 5 0)
  have := ltB_len (ls.getD 4 0)
  have := ltB_len (ls.getD 3 0)
  have := ltB_len (ls.getD 2 0)
  have := ltB_len (ls.getD 1 0)
  have := ltB_len (ls.getD 0 0)
  omega
theorem writeWord_ok {c : hH} {ls : List Int} (hW : WC c []) (hls : LtOk ls) (h7 : ls.length ≤ 7) : ∃ c', fX11_writeWord c 0 (r32 ls) = some c' ∧ WC c' (wrdB ls) ∧ Fr tgC c c' := by
  obtain ⟨n, hn⟩ : ∃ n : Nat, r32 ls = (n : Int) := ⟨(r32 ls).toNat, by have := (r32_b hls).1; omega⟩
  have hb : n < 34359738368 := by
    have h1 := (r32_b hls).2
    have h2 := p32_le h7
    omega
  have dig : ∀ k : Nat, ((n : Int) / 32 ^ k % 32) = ls.getD k 0 := fun k => by rw [← hn]; exact r32_dig k hls
  have e6 : iadD (w32 (lusD (r32 ls) 30)) 31 = ls.getD 6 0 := by
    rw [hn, lus5_6 (by omega), iad31, ← dig 6, show (32 : Int) ^ 6 = 1073741824 from rfl]
    omega
  obtain ⟨c6, a6, b6, f6⟩ := wordC_s (x0 := c) (w := r32 ls) (s := 30) (s' := 25) (by decide) hW (by simp only [List.length_append, List.length_nil]; omega) hls 6 (by decide) (by decide) e6
  have e5 : iadD (w32 (lusD (r32 ls) 25)) 31 = ls.getD 5 0 := by
    rw [hn, lus5_5 (by omega), iad31, ← dig 5, show (32 : Int) ^ 5 = 33554432 from rfl]
    omega
  obtain ⟨c5, a5, b5, f5⟩ := wordC_s (x0 := c) (w := r32 ls) (s := 25) (s' := 20) (by decide) b6 (by simp only [List.length_append, List.length_nil]; have := ltB_len (ls.getD 6 0); omega) hls 5 (by decide) (by decide) e5
  have e4 : iadD (w32 (lusD (r32 ls) 20)) 31 = ls.getD 4 0 := by
    rw [hn, lus5_4 (by omega), iad31, ← dig 4, show (32 : Int) ^ 4 = 1048576 from rfl]
    omega
  obtain ⟨c4, a4, b4, f4⟩ := wordC_s (x0 := c) (w := r32 ls) (s := 20) (s' := 15) (by decide) b5 (by simp only [List.length_append, List.length_nil]; have := ltB_len (ls.getD 6 0); have := ltB_len (ls.getD 5 0); omega) hls 4 (by decide) (by decide) e4
  have e3 : iadD (w32 (lusD (r32 ls) 15)) 31 = ls.getD 3 0 := by
    rw [hn, lus5_3 (by omega), iad31, ← dig 3, show (32 : Int) ^ 3 = 32768 from rfl]
    omega
  obtain ⟨c3, a3, b3, f3⟩ := wordC_s (x0 := c) (w := r32 ls) (s := 15) (s' := 10) (by decide) b4 (by simp only [List.length_append, List.length_nil]; have := ltB_len (ls.getD 6 0); have := ltB_len (ls.getD 5 0); have := ltB_len (ls.getD 4 0); omega) hls 3 (by decide) (by decide) e3
  have e2 : iadD (w32 (lusD (r32 ls) 10)) 31 = ls.getD 2 0 := by
    rw [hn, lus5_2 (by omega), iad31, ← dig 2, show (32 : Int) ^ 2 = 1024 from rfl]
    omega
  obtain ⟨c2, a2, b2, f2⟩ := wordC_s (x0 := c) (w := r32 ls) (s := 10) (s' := 5) (by decide) b3 (by simp only [List.length_append, List.length_nil]; have := ltB_len (ls.getD 6 0); have := ltB_len (ls.getD 5 0); have := ltB_len (ls.getD 4 0); have := ltB_len (ls.getD 3 0); omega) hls 2 (by decide) (by decide) e2
  have e1 : iadD (w32 (lusD (r32 ls) 5)) 31 = ls.getD 1 0 := by
    rw [hn, lus5_1 (by omega), iad31, ← dig 1, show (32 : Int) ^ 1 = 32 from rfl]
    omega
  obtain ⟨c1, a1, b1, f1⟩ := wordC_s (x0 := c) (w := r32 ls) (s := 5) (s' := 0) (by decide) b2 (by simp only [List.length_append, List.length_nil]; have := ltB_len (ls.getD 6 0); have := ltB_len (ls.getD 5 0); have := ltB_len (ls.getD 4 0); have := ltB_len (ls.getD 3 0); have := ltB_len (ls.getD 2 0); omega) hls 1 (by decide) (by decide) e1
  have e0 : iadD (w32 (lusD (r32 ls) 0)) 31 = ls.getD 0 0 := by
    rw [hn, lus5_0 (by omega), iad31, ← dig 0, show (32 : Int) ^ 0 = 1 from rfl]
    omega
  obtain ⟨c0, a0, b0, f0⟩ := wordC_s (x0 := c) (w := r32 ls) (s := 0) (s' := -5) (by decide) b1 (by simp only [List.length_append, List.length_nil]; have := ltB_len (ls.getD 6 0); have := ltB_len (ls.getD 5 0); have := ltB_len (ls.getD 4 0); have := ltB_len (ls.getD 3 0); have := ltB_len (ls.getD 2 0); have := ltB_len (ls.getD 1 0); omega) hls 0 (by decide) (by decide) e0
  refine ⟨c0, ?_, b0, f6.tr (f5.tr (f4.tr (f3.tr (f2.tr (f1.tr f0)))))⟩
  unfold fX11_writeWord
  rw [lpO_inl a6, lpO_inl a5, lpO_inl a4, lpO_inl a3, lpO_inl a2, lpO_inl a1, lpO_inl a0]
  exact lpO_inr rfl
theorem spells_ok {g : hH} {ls : List Int} (hW : WM g []) (hls : LtOk ls) (h7 : ls.length ≤ 7) : ∃ g', fX12_spells g 192 (r256 ls) = some g' ∧ WM g' (wrdB ls) ∧ Fr tgM g g' := by
  obtain ⟨n, hn⟩ : ∃ n : Nat, r256 ls = (n : Int) := ⟨(r256 ls).toNat, by have := (r256_b hls).1; omega⟩
  have hb : n < 72057594037927936 := by
    have h1 := (r256_b hls).2
    have h2 := p256_le h7
    omega
  have dig : ∀ k : Nat, ((n : Int) / 256 ^ k % 256) = if ls.getD k 0 = 0 then 0 else 96 + ls.getD k 0 := fun k => by rw [← hn]; exact r256_dig k hls
  have z7 : ls.getD 7 0 = 0 := by rw [List.getD_eq_getElem?_getD, List.getElem?_eq_none h7]; rfl
  have e7 : landD (lsrD (r256 ls) 56) 255 = if ls.getD 7 0 = 0 then 0 else 96 + ls.getD 7 0 := by
    rw [hn, lsr8_7 (by omega), land255 (by have : n / 72057594037927936 ≤ n := Nat.div_le_self _ _; omega), ← dig 7, show (256 : Int) ^ 7 = 72057594037927936 from rfl]
    omega
  obtain ⟨c7, a7, b7, f7⟩ := wordM_s (x0 := g) (w := r256 ls) (s := 56) (s' := 48) (by decide) hW (by simp only [List.length_append, List.length_nil]; omega) hls 7 (by decide) (by decide) e7
  have e6 : landD (lsrD (r256 ls) 48) 255 = if ls.getD 6 0 = 0 then 0 else 96 + ls.getD 6 0 := by
    rw [hn, lsr8_6 (by omega), land255 (by have : n / 281474976710656 ≤ n := Nat.div_le_self _ _; omega), ← dig 6, show (256 : Int) ^ 6 = 281474976710656 from rfl]
    omega
  obtain ⟨c6, a6, b6, f6⟩ := wordM_s (x0 := g) (w := r256 ls) (s := 48) (s' := 40) (by decide) b7 (by simp only [List.length_append, List.length_nil]; have := ltB_len (ls.getD 7 0); omega) hls 6 (by decide) (by decide) e6
  have e5 : landD (lsrD (r256 ls) 40) 255 = if ls.getD 5 0 = 0 then 0 else 96 + ls.getD 5 0 := by
    rw [hn, lsr8_5 (by omega), land255 (by have : n / 1099511627776 ≤ n := Nat.div_le_self _ _; omega), ← dig 5, show (256 : Int) ^ 5 = 1099511627776 from rfl]
    omega
  obtain ⟨c5, a5, b5, f5⟩ := wordM_s (x0 := g) (w := r256 ls) (s := 40) (s' := 32) (by decide) b6 (by simp only [List.length_append, List.length_nil]; have := ltB_len (ls.getD 7 0); have := ltB_len (ls.getD 6 0); omega) hls 5 (by decide) (by decide) e5
  have e4 : landD (lsrD (r256 ls) 32) 255 = if ls.getD 4 0 = 0 then 0 else 96 + ls.getD 4 0 := by
    rw [hn, lsr8_4 (by omega), land255 (by have : n / 4294967296 ≤ n := Nat.div_le_self _ _; omega), ← dig 4, show (256 : Int) ^ 4 = 4294967296 from rfl]
    omega
  obtain ⟨c4, a4, b4, f4⟩ := wordM_s (x0 := g) (w := r256 ls) (s := 32) (s' := 24) (by decide) b5 (by simp only [List.length_append, List.length_nil]; have := ltB_len (ls.getD 7 0); have := ltB_len (ls.getD 6 0); have := ltB_len (ls.getD 5 0); omega) hls 4 (by decide) (by decide) e4
  have e3 : landD (lsrD (r256 ls) 24) 255 = if ls.getD 3 0 = 0 then 0 else 96 + ls.getD 3 0 := by
    rw [hn, lsr8_3 (by omega), land255 (by have : n / 16777216 ≤ n := Nat.div_le_self _ _; omega), ← dig 3, show (256 : Int) ^ 3 = 16777216 from rfl]
    omega
  obtain ⟨c3, a3, b3, f3⟩ := wordM_s (x0 := g) (w := r256 ls) (s := 24) (s' := 16) (by decide) b4 (by simp only [List.length_append, List.length_nil]; have := ltB_len (ls.getD 7 0); have := ltB_len (ls.getD 6 0); have := ltB_len (ls.getD 5 0); have := ltB_len (ls.getD 4 0); omega) hls 3 (by decide) (by decide) e3
  have e2 : landD (lsrD (r256 ls) 16) 255 = if ls.getD 2 0 = 0 then 0 else 96 + ls.getD 2 0 := by
    rw [hn, lsr8_2 (by omega), land255 (by have : n / 65536 ≤ n := Nat.div_le_self _ _; omega), ← dig 2, show (256 : Int) ^ 2 = 65536 from rfl]
    omega
  obtain ⟨c2, a2, b2, f2⟩ := wordM_s (x0 := g) (w := r256 ls) (s := 16) (s' := 8) (by decide) b3 (by simp only [List.length_append, List.length_nil]; have := ltB_len (ls.getD 7 0); have := ltB_len (ls.getD 6 0); have := ltB_len (ls.getD 5 0); have := ltB_len (ls.getD 4 0); have := ltB_len (ls.getD 3 0); omega) hls 2 (by decide) (by decide) e2
  have e1 : landD (lsrD (r256 ls) 8) 255 = if ls.getD 1 0 = 0 then 0 else 96 + ls.getD 1 0 := by
    rw [hn, lsr8_1 (by omega), land255 (by have : n / 256 ≤ n := Nat.div_le_self _ _; omega), ← dig 1, show (256 : Int) ^ 1 = 256 from rfl]
    omega
  obtain ⟨c1, a1, b1, f1⟩ := wordM_s (x0 := g) (w := r256 ls) (s := 8) (s' := 0) (by decide) b2 (by simp only [List.length_append, List.length_nil]; have := ltB_len (ls.getD 7 0); have := ltB_len (ls.getD 6 0); have := ltB_len (ls.getD 5 0); have := ltB_len (ls.getD 4 0); have := ltB_len (ls.getD 3 0); have := ltB_len (ls.getD 2 0); omega) hls 1 (by decide) (by decide) e1
  have e0 : landD (lsrD (r256 ls) 0) 255 = if ls.getD 0 0 = 0 then 0 else 96 + ls.getD 0 0 := by
    rw [hn, lsr8_0 (by omega), land255 (by have : n / 1 ≤ n := Nat.div_le_self _ _; omega), ← dig 0, show (256 : Int) ^ 0 = 1 from rfl]
    omega
  obtain ⟨c0, a0, b0, f0⟩ := wordM_s (x0 := g) (w := r256 ls) (s := 0) (s' := -8) (by decide) b1 (by simp only [List.length_append, List.length_nil]; have := ltB_len (ls.getD 7 0); have := ltB_len (ls.getD 6 0); have := ltB_len (ls.getD 5 0); have := ltB_len (ls.getD 4 0); have := ltB_len (ls.getD 3 0); have := ltB_len (ls.getD 2 0); have := ltB_len (ls.getD 1 0); omega) hls 0 (by decide) (by decide) e0
  refine ⟨c0, ?_, ?_, f7.tr (f6.tr (f5.tr (f4.tr (f3.tr (f2.tr (f1.tr f0))))))⟩
  · unfold fX12_spells
    rw [lpO_inl a7, lpO_inl a6, lpO_inl a5, lpO_inl a4, lpO_inl a3, lpO_inl a2, lpO_inl a1, lpO_inl a0]
    exact lpO_inr rfl
  · rw [z7] at b0
    exact b0
