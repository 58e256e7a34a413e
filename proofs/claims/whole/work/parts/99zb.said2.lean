/-! WHAT MAY BE SAID: the answers, piled up -/
theorem i32_nat {n : Nat} (h : n < 4294967296) : (Int32.ofInt (n : Int)).toBitVec.toNat = n := by
  have e : (Int32.ofInt (n : Int)).toBitVec = BitVec.ofInt 32 (n : Int) := rfl
  rw [e, BitVec.toNat_ofInt]
  omega
theorem i32_int {x : Int32} {n : Nat} (e : x.toBitVec.toNat = n) (h : n < 2147483648) : x.toInt = (n : Int) := by
  have e1 : x.toInt = x.toBitVec.toInt := rfl
  rw [e1, BitVec.toInt_eq_toNat_of_lt (by rw [e]; omega), e]
theorem w32_of (y : Int) : Int32.ofInt (w32 y) = Int32.ofInt y := Int32.ofInt_toInt _
theorem bit_two {w b : Nat} (hb : b ≤ 1) (i : Nat) : (b + 2 * w).testBit (i + 1) = w.testBit i := by
  rw [Nat.testBit_add_one]
  congr 1
  omega
theorem bit_z {w b : Nat} (hb : b ≤ 1) : (b + 2 * w).testBit 0 = decide (b = 1) := by
  rw [Nat.testBit_zero]
  congr 1
  apply propext
  omega
theorem big_bit (i : Nat) : (4294967294 : Nat).testBit (i + 1) = decide (i < 31) := by
  rw [Nat.testBit_add_one, show 4294967294 / 2 = 2 ^ 31 - 1 from rfl, Nat.testBit_two_pow_sub_one]
theorem xo_ok {b w : Int} (hb : b = 0 ∨ b = 1) (w0 : 0 ≤ w) (w1 : w < 536870912) : ixoD (b + 2 * w) 1 = (1 - b) + 2 * w := by
  obtain ⟨W, rfl⟩ : ∃ n : Nat, w = (n : Int) := ⟨w.toNat, by omega⟩
  obtain ⟨b', hb', rfl⟩ : ∃ n : Nat, n ≤ 1 ∧ b = (n : Int) := ⟨b.toNat, by omega, by omega⟩
  have hx : (b' + 2 * W) ^^^ 1 = (1 - b') + 2 * W := by
    apply Nat.eq_of_testBit_eq
    intro i
    rw [Nat.testBit_xor]
    cases i with
    | zero =>
      rw [bit_z hb', bit_z (by omega)]
      rcases (show b' = 0 ∨ b' = 1 by omega) with rfl | rfl <;> decide
    | succ i =>
      rw [bit_two hb', bit_two (by omega), show (1 : Nat) = 1 + 2 * 0 from rfl, bit_two (by decide), Nat.zero_testBit, Bool.xor_false]
  unfold ixoD
  rw [show ((b' : Int) + 2 * (W : Int)) = ((b' + 2 * W : Nat) : Int) by push_cast; rfl]
  have e : (Int32.ofInt ((b' + 2 * W : Nat) : Int) ^^^ Int32.ofInt 1).toBitVec.toNat = (1 - b') + 2 * W := by
    rw [Int32.toBitVec_xor, BitVec.toNat_xor, i32_nat (by omega), show (Int32.ofInt (1 : Int)).toBitVec.toNat = 1 from rfl, hx]
  rw [i32_int e (by omega), w32_id (by omega) (by omega)]
  omega
theorem ius1_ok {n : Nat} (h : n < 2147483648) : (iusD (n : Int) 1 = ((n / 2 : Nat) : Int)) ∧ (Int32.ofInt (iusD (n : Int) 1)).toBitVec.toNat = n / 2 := by
  have e : ((((Int32.ofInt (n : Int)).toUInt32 >>> ((Int32.ofInt 1).toUInt32 &&& Int32.toUInt32 31)).toInt32)).toBitVec.toNat = n / 2 := by
    have : ((((Int32.ofInt (n : Int)).toUInt32 >>> ((Int32.ofInt 1).toUInt32 &&& Int32.toUInt32 31)).toInt32)).toBitVec = (Int32.ofInt (n : Int)).toBitVec >>> (1 : Nat) := rfl
    rw [this, BitVec.toNat_ushiftRight, i32_nat (by omega), Nat.shiftRight_eq_div_pow]
  have e2 : iusD (n : Int) 1 = ((n / 2 : Nat) : Int) := by
    unfold iusD
    rw [i32_int e (by omega), w32_id (by omega) (by omega)]
  exact ⟨e2, by rw [e2, i32_nat (by omega)]⟩
theorem iad1_ok {n : Nat} (h : n < 2147483648) : iadD (n : Int) 1 = ((n % 2 : Nat) : Int) := by
  unfold iadD
  have e : (Int32.ofInt (n : Int) &&& Int32.ofInt 1).toBitVec.toNat = n % 2 := by
    rw [Int32.toBitVec_and, BitVec.toNat_and, i32_nat (by omega), show (Int32.ofInt (1 : Int)).toBitVec.toNat = 2 ^ 1 - 1 from rfl, Nat.and_two_pow_sub_one_eq_mod]
  rw [i32_int e (by omega), w32_id (by omega) (by omega)]
theorem ior_nat {a b : Nat} (ha : a < 2147483648) (hb : b < 2147483648) (hc : a ||| b < 2147483648) : iorD (a : Int) (b : Int) = ((a ||| b : Nat) : Int) := by
  unfold iorD
  have e : (Int32.ofInt (a : Int) ||| Int32.ofInt (b : Int)).toBitVec.toNat = a ||| b := by
    rw [Int32.toBitVec_or, BitVec.toNat_or, i32_nat (by omega), i32_nat (by omega)]
  rw [i32_int e hc, w32_id (by omega) (by omega)]
theorem or_bit {b w s : Nat} (hb : b ≤ 1) (hs : s ≤ 1) : (b + 2 * w) ||| s = (if b = 0 then s else 1) + 2 * w := by
  have ht : (if b = 0 then s else 1) ≤ 1 := by split <;> omega
  apply Nat.eq_of_testBit_eq
  intro i
  rw [Nat.testBit_or]
  cases i with
  | zero =>
    rw [bit_z hb, bit_z ht, show s = s + 2 * 0 by omega, bit_z hs]
    rcases (show b = 0 ∨ b = 1 by omega) with rfl | rfl
    · rcases (show s = 0 ∨ s = 1 by omega) with rfl | rfl <;> decide
    · rcases (show s = 0 ∨ s = 1 by omega) with rfl | rfl <;> decide
  | succ i =>
    rw [bit_two hb, bit_two ht, show s = s + 2 * 0 by omega, bit_two hs, Nat.zero_testBit, Bool.or_false]
theorem an_ok {a b w : Int} (ha : a = 0 ∨ a = 1) (hb : b = 0 ∨ b = 1) (w0 : 0 ≤ w) (w1 : w < 268435456) : iadD (iusD (a + 2 * (b + 2 * w)) 1) (iorD (a + 2 * (b + 2 * w)) (-2)) = a * b + 2 * w := by
  obtain ⟨W, rfl⟩ : ∃ n : Nat, w = (n : Int) := ⟨w.toNat, by omega⟩
  obtain ⟨b', hb', rfl⟩ : ∃ n : Nat, n ≤ 1 ∧ b = (n : Int) := ⟨b.toNat, by omega, by omega⟩
  obtain ⟨a', ha', rfl⟩ : ∃ n : Nat, n ≤ 1 ∧ a = (n : Int) := ⟨a.toNat, by omega, by omega⟩
  have hab : a' * b' ≤ 1 := by
    rcases (show a' = 0 ∨ a' = 1 by omega) with rfl | rfl <;> omega
  rw [show ((a' : Int) + 2 * ((b' : Int) + 2 * (W : Int))) = ((a' + 2 * (b' + 2 * W) : Nat) : Int) by push_cast; rfl]
  obtain ⟨-, u2⟩ := ius1_ok (n := a' + 2 * (b' + 2 * W)) (by omega)
  have hx : (b' + 2 * W) &&& ((a' + 2 * (b' + 2 * W)) ||| 4294967294) = a' * b' + 2 * W := by
    apply Nat.eq_of_testBit_eq
    intro i
    rw [Nat.testBit_and, Nat.testBit_or]
    cases i with
    | zero =>
      rw [bit_z hb', bit_z ha', bit_z hab]
      rcases (show a' = 0 ∨ a' = 1 by omega) with rfl | rfl
      · rcases (show b' = 0 ∨ b' = 1 by omega) with rfl | rfl <;> decide
      · rcases (show b' = 0 ∨ b' = 1 by omega) with rfl | rfl <;> decide
    | succ i =>
      rw [bit_two hb', bit_two hab, big_bit]
      by_cases z : i < 31
      · rw [decide_eq_true z, Bool.or_true, Bool.and_true]
      · have : W.testBit i = false := Nat.testBit_lt_two_pow (Nat.lt_of_lt_of_le (show W < 2 ^ 31 by omega) (Nat.pow_le_pow_right (by decide) (by omega)))
        rw [this, Bool.false_and]
  have eM : (Int32.ofInt (iorD ((a' + 2 * (b' + 2 * W) : Nat) : Int) (-2))).toBitVec.toNat = (a' + 2 * (b' + 2 * W)) ||| 4294967294 := by
    unfold iorD
    rw [w32_of, Int32.ofInt_toInt, Int32.toBitVec_or, BitVec.toNat_or, i32_nat (by omega)]
    rfl
  unfold iadD
  have e : (Int32.ofInt (iusD ((a' + 2 * (b' + 2 * W) : Nat) : Int) 1) &&& Int32.ofInt (iorD ((a' + 2 * (b' + 2 * W) : Nat) : Int) (-2))).toBitVec.toNat = a' * b' + 2 * W := by
    rw [Int32.toBitVec_and, BitVec.toNat_and, u2, eM, show (a' + 2 * (b' + 2 * W)) / 2 = b' + 2 * W by omega, hx]
  rw [i32_int e (by omega), w32_id (by omega) (by omega)]
  push_cast
  rfl
theorem orr_ok {a b w : Int} (ha : a = 0 ∨ a = 1) (hb : b = 0 ∨ b = 1) (w0 : 0 ≤ w) (w1 : w < 268435456) : iorD (iusD (a + 2 * (b + 2 * w)) 1) (iadD (a + 2 * (b + 2 * w)) 1) = (if b = 0 then a else 1) + 2 * w := by
  obtain ⟨W, rfl⟩ : ∃ n : Nat, w = (n : Int) := ⟨w.toNat, by omega⟩
  obtain ⟨b', hb', rfl⟩ : ∃ n : Nat, n ≤ 1 ∧ b = (n : Int) := ⟨b.toNat, by omega, by omega⟩
  obtain ⟨a', ha', rfl⟩ : ∃ n : Nat, n ≤ 1 ∧ a = (n : Int) := ⟨a.toNat, by omega, by omega⟩
  rw [show ((a' : Int) + 2 * ((b' : Int) + 2 * (W : Int))) = ((a' + 2 * (b' + 2 * W) : Nat) : Int) by push_cast; rfl, (ius1_ok (by omega)).1, iad1_ok (by omega), show (a' + 2 * (b' + 2 * W)) / 2 = b' + 2 * W by omega, show (a' + 2 * (b' + 2 * W)) % 2 = a' by omega]
  have hx := or_bit (w := W) hb' ha'
  have ht : (if b' = 0 then a' else 1) ≤ 1 := by split <;> omega
  rw [ior_nat (by omega) (by omega) (by rw [hx]; omega), hx]
  rcases (show b' = 0 ∨ b' = 1 by omega) with rfl | rfl
  · rw [if_pos rfl, if_pos (show ((0 : Nat) : Int) = 0 from rfl)]; push_cast; rfl
  · rw [if_neg (by decide), if_neg (by decide)]; push_cast; rfl
theorem pu_ok {v s : Int} (v0 : 0 ≤ v) (v1 : v < 536870912) (hs : s = 0 ∨ s = 1) : iorD (ishD v 1) s = s + 2 * v := by
  obtain ⟨W, rfl⟩ : ∃ n : Nat, v = (n : Int) := ⟨v.toNat, by omega⟩
  obtain ⟨b', hb', rfl⟩ : ∃ n : Nat, n ≤ 1 ∧ s = (n : Int) := ⟨s.toNat, by omega, by omega⟩
  have e : (Int32.ofInt (W : Int) <<< (Int32.ofInt 1 &&& 31)).toBitVec.toNat = 2 * W := by
    have : (Int32.ofInt (W : Int) <<< (Int32.ofInt 1 &&& 31)).toBitVec = (Int32.ofInt (W : Int)).toBitVec <<< (1 : Nat) := rfl
    rw [this, BitVec.toNat_shiftLeft, i32_nat (by omega), Nat.shiftLeft_eq]
    omega
  have e2 : ishD (W : Int) 1 = ((2 * W : Nat) : Int) := by
    unfold ishD
    rw [i32_int e (by omega), w32_id (by omega) (by omega)]
  have hx := or_bit (b := 0) (w := W) (by decide) hb'
  rw [Nat.zero_add, if_pos rfl] at hx
  rw [e2, ior_nat (by omega) (by omega) (by rw [hx]; omega), hx]
  push_cast
  rfl
/-- answers, the latest first -/
def bitsB (bs : List Int) : Prop := ∀ b ∈ bs, b = 0 ∨ b = 1
def pileV : List Int → Int
  | [] => 0
  | b :: l => b + 2 * pileV l
theorem pileV_b : ∀ {bs : List Int}, bitsB bs → 0 ≤ pileV bs ∧ pileV bs < 2 ^ bs.length
  | [], _ => by show (0 : Int) ≤ 0 ∧ (0 : Int) < 1; decide
  | b :: l, h => by
    have hb := h b List.mem_cons_self
    have ih := pileV_b (bs := l) (fun x hx => h x (List.mem_cons_of_mem _ hx))
    show 0 ≤ b + 2 * pileV l ∧ b + 2 * pileV l < 2 ^ (l.length + 1)
    rw [Int.pow_succ]
    omega
noncomputable def evC (S : Int → Int) (q : Int) (x : CT) (bs : List Int) : List Int :=
  if x.1 = 20 then (match bs with | b :: l => (1 - b) :: l | [] => [])
  else if x.1 = 21 then (match bs with | a :: b :: l => (a * b) :: l | _ => [])
  else if x.1 = 22 then (match bs with | a :: b :: l => (if b = 0 then a else 1) :: l | _ => [])
  else (@ite Int (leafS S x q) (Classical.propDecidable _) 1 0) :: bs
noncomputable def evL (S : Int → Int) (q : Int) : List CT → List Int → List Int
  | [], bs => bs
  | x :: γ, bs => evL S q γ (evC S q x bs)
theorem leaf_ne {x : CT} (h : LeafOk x) : x.1 ≠ 20 ∧ x.1 ≠ 21 ∧ x.1 ≠ 22 := by
  rcases h with h | ⟨h, -⟩
  · omega
  · rcases h with h | ⟨h, -⟩ <;> omega
theorem cls_ne {x : CT} (h : LeafOk x) : (clsT x).1 ≠ 151 ∧ (clsT x).1 ≠ 144 ∧ (clsT x).1 ≠ 150 := by
  unfold clsT cA
  rcases h with h | ⟨h, -⟩
  · rcases h with h | h | h | h
    · rw [if_neg (by omega)]; dsimp only; rw [if_pos (by omega), h]; decide
    · rw [if_neg (by omega)]; dsimp only; rw [if_pos (by omega), h]; decide
    · rw [if_neg (by omega)]; dsimp only; rw [if_pos (by omega), h]; decide
    · rw [if_pos h]; dsimp only; decide
  · rcases h with h | ⟨h, -⟩
    · rw [if_neg (by omega)]; dsimp only; rw [if_neg (by omega), if_pos h]; decide
    · rw [if_neg (by omega)]; dsimp only; rw [if_neg (by omega), if_neg (by omega), if_neg (by omega), if_neg (by omega), if_neg (by omega)]; omega
/-- how a code goes on from answers: three ways -/
theorem ev_cases {S : Int → Int} {q : Int} {x : CT} {γ : List CT} {bs : List Int} (hb : bitsB bs) (h : WFr (x :: γ) bs.length 1) : bitsB (evC S q x bs) ∧ WFr γ (evC S q x bs).length 1 ∧ ((LeafOk x ∧ evC S q x bs = (@ite Int (leafS S x q) (Classical.propDecidable _) 1 0) :: bs) ∨ (x = opc 20 ∧ ∃ b l, bs = b :: l ∧ (b = 0 ∨ b = 1) ∧ evC S q x bs = (1 - b) :: l) ∨ (x = opc 21 ∧ ∃ a b l, bs = a :: b :: l ∧ (a = 0 ∨ a = 1) ∧ (b = 0 ∨ b = 1) ∧ evC S q x bs = (a * b) :: l) ∨ (x = opc 22 ∧ ∃ a b l, bs = a :: b :: l ∧ (a = 0 ∨ a = 1) ∧ (b = 0 ∨ b = 1) ∧ evC S q x bs = (if b = 0 then a else 1) :: l)) := by
  rcases h with ⟨hx, hw⟩ | ⟨rfl, h1, hw⟩ | ⟨hx, h2, hw⟩
  · obtain ⟨n1, n2, n3⟩ := leaf_ne hx
    have e : evC S q x bs = (@ite Int (leafS S x q) (Classical.propDecidable _) 1 0) :: bs := by unfold evC; rw [if_neg n1, if_neg n2, if_neg n3]
    refine ⟨?_, by rw [e]; exact hw, Or.inl ⟨hx, e⟩⟩
    rw [e]
    intro b hb'
    rcases List.mem_cons.mp hb' with rfl | hb'
    · split
      · exact Or.inr rfl
      · exact Or.inl rfl
    · exact hb b hb'
  · cases bs with
    | nil => simp at h1
    | cons b l =>
      have hb0 := hb b List.mem_cons_self
      have e : evC S q (opc 20) (b :: l) = (1 - b) :: l := by unfold evC opc; rw [if_pos rfl]
      refine ⟨?_, by rw [e]; exact hw, Or.inr (Or.inl ⟨rfl, b, l, rfl, hb0, e⟩)⟩
      rw [e]
      intro y hy
      rcases List.mem_cons.mp hy with rfl | hy
      · omega
      · exact hb y (List.mem_cons_of_mem _ hy)
  · match bs, hb, h2, hw with
    | [], _, h2, _ => simp at h2
    | [_], _, h2, _ => simp at h2
    | a :: b :: l, hb, h2, hw =>
      have ha0 := hb a List.mem_cons_self
      have hb0 := hb b (List.mem_cons_of_mem _ List.mem_cons_self)
      have hl : ∀ y ∈ l, y = 0 ∨ y = 1 := fun y hy => hb y (List.mem_cons_of_mem _ (List.mem_cons_of_mem _ hy))
      rcases hx with rfl | rfl
      · have e : evC S q (opc 21) (a :: b :: l) = (a * b) :: l := by unfold evC opc; rw [if_neg (by decide), if_pos rfl]
        refine ⟨?_, by rw [e]; exact hw, Or.inr (Or.inr (Or.inl ⟨rfl, a, b, l, rfl, ha0, hb0, e⟩))⟩
        rw [e]
        intro y hy
        rcases List.mem_cons.mp hy with rfl | hy
        · rcases ha0 with rfl | rfl
          · exact Or.inl (Int.zero_mul _)
          · rw [Int.one_mul]; exact hb0
        · exact hl y hy
      · have e : evC S q (opc 22) (a :: b :: l) = (if b = 0 then a else 1) :: l := by unfold evC opc; rw [if_neg (by decide), if_neg (by decide), if_pos rfl]
        refine ⟨?_, by rw [e]; exact hw, Or.inr (Or.inr (Or.inr ⟨rfl, a, b, l, rfl, ha0, hb0, e⟩))⟩
        rw [e]
        intro y hy
        rcases List.mem_cons.mp hy with rfl | hy
        · split
          · exact ha0
          · exact Or.inr rfl
        · exact hl y hy
theorem ev_end {S : Int → Int} {q : Int} : ∀ {γ : List CT} {bs : List Int}, bitsB bs → WFr γ bs.length 1 → ∃ b, evL S q γ bs = [b] ∧ (b = 0 ∨ b = 1)
  | [], bs, hb, h => by
    have h : bs.length = 1 := h
    match bs, hb, h with
    | [b], hb, _ => exact ⟨b, rfl, hb b List.mem_cons_self⟩
  | x :: γ, bs, hb, h => by
    obtain ⟨h1, h2, -⟩ := ev_cases (S := S) (q := q) hb h
    show ∃ b, evL S q γ (evC S q x bs) = [b] ∧ (b = 0 ∨ b = 1)
    exact ev_end h1 h2
/-- the depth stays small -/
theorem WFr.dep : ∀ {γ : List CT} {d e : Nat}, WFr γ d e → d ≤ e + γ.length
  | [], d, e, h => by
    have h : d = e := h
    simp; omega
  | x :: γ, d, e, h => by
    rw [List.length_cons]
    rcases h with ⟨-, h⟩ | ⟨-, -, h⟩ | ⟨-, h2, h⟩
    · have := WFr.dep h; omega
    · have := WFr.dep h; omega
    · have := WFr.dep h; omega
