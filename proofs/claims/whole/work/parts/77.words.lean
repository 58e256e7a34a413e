/-! WORDS AND NUMBERS, PACKED -/
theorem i64_nat {n : Nat} (h : n < 9223372036854775808) : (Int64.ofInt (n : Int)).toBitVec.toNat = n := by
  have e : (Int64.ofInt (n : Int)).toBitVec = BitVec.ofInt 64 (n : Int) := rfl
  rw [e, BitVec.toNat_ofInt]
  omega
theorem i64_int {x : Int64} {n : Nat} (e : x.toBitVec.toNat = n) (h : n < 9223372036854775808) : x.toInt = (n : Int) := by
  have e1 : x.toInt = x.toBitVec.toInt := rfl
  rw [e1, BitVec.toInt_eq_toNat_of_lt (by rw [e]; omega), e]
theorem lor_nat {a b : Nat} (ha : a < 9223372036854775808) (hb : b < 9223372036854775808) (hc : a ||| b < 9223372036854775808) : lorD (a : Int) (b : Int) = ((a ||| b : Nat) : Int) := by
  unfold lorD
  have e : (Int64.ofInt (a : Int) ||| Int64.ofInt (b : Int)).toBitVec.toNat = a ||| b := by
    rw [Int64.toBitVec_or, BitVec.toNat_or, i64_nat ha, i64_nat hb]
  rw [i64_int e hc, w64_id (by omega) (by omega)]
theorem land_nat {a b : Nat} (ha : a < 9223372036854775808) (hb : b < 9223372036854775808) : landD (a : Int) (b : Int) = ((a &&& b : Nat) : Int) := by
  unfold landD
  have e : (Int64.ofInt (a : Int) &&& Int64.ofInt (b : Int)).toBitVec.toNat = a &&& b := by
    rw [Int64.toBitVec_and, BitVec.toNat_and, i64_nat ha, i64_nat hb]
  have : a &&& b ≤ a := Nat.and_le_left
  rw [i64_int e (by omega), w64_id (by omega) (by omega)]
theorem lsh_nat {a s : Nat} (hs : s = 8 ∨ s = 20) (hc : a * 2 ^ s < 9223372036854775808) : lshD (a : Int) (s : Int) = ((a * 2 ^ s : Nat) : Int) := by
  have ha : a < 9223372036854775808 := Nat.lt_of_le_of_lt (Nat.le_mul_of_pos_right _ (Nat.two_pow_pos s)) hc
  unfold lshD
  have e : (Int64.ofInt (a : Int) <<< ((Int32.ofInt (s : Int)).toInt64 &&& 63)).toBitVec.toNat = a * 2 ^ s := by
    rcases hs with rfl | rfl
    · have : (Int64.ofInt (a : Int) <<< ((Int32.ofInt ((8 : Nat) : Int)).toInt64 &&& 63)).toBitVec = (Int64.ofInt (a : Int)).toBitVec <<< (8 : Nat) := rfl
      rw [this, BitVec.toNat_shiftLeft, i64_nat ha, Nat.shiftLeft_eq]
      omega
    · have : (Int64.ofInt (a : Int) <<< ((Int32.ofInt ((20 : Nat) : Int)).toInt64 &&& 63)).toBitVec = (Int64.ofInt (a : Int)).toBitVec <<< (20 : Nat) := rfl
      rw [this, BitVec.toNat_shiftLeft, i64_nat ha, Nat.shiftLeft_eq]
      omega
  rw [i64_int e hc, w64_id (by omega) (by omega)]
theorem lus_nat {a s : Nat} (hs : s = 8 ∨ s = 20) (ha : a < 9223372036854775808) : lusD (a : Int) (s : Int) = ((a / 2 ^ s : Nat) : Int) := by
  unfold lusD
  have e : (((Int64.ofInt (a : Int)).toUInt64 >>> ((Int32.ofInt (s : Int)).toInt64.toUInt64 &&& Int64.toUInt64 63)).toInt64).toBitVec.toNat = a / 2 ^ s := by
    rcases hs with rfl | rfl
    · have : (((Int64.ofInt (a : Int)).toUInt64 >>> ((Int32.ofInt ((8 : Nat) : Int)).toInt64.toUInt64 &&& Int64.toUInt64 63)).toInt64).toBitVec = (Int64.ofInt (a : Int)).toBitVec >>> (8 : Nat) := rfl
      rw [this, BitVec.toNat_ushiftRight, i64_nat ha, Nat.shiftRight_eq_div_pow]
    · have : (((Int64.ofInt (a : Int)).toUInt64 >>> ((Int32.ofInt ((20 : Nat) : Int)).toInt64.toUInt64 &&& Int64.toUInt64 63)).toInt64).toBitVec = (Int64.ofInt (a : Int)).toBitVec >>> (20 : Nat) := rfl
      rw [this, BitVec.toNat_ushiftRight, i64_nat ha, Nat.shiftRight_eq_div_pow]
  have hl : a / 2 ^ s ≤ a := Nat.div_le_self _ _
  rw [i64_int e (by omega), w64_id (by omega) (by omega)]
def pkT (k a v : Int) : Int := lorD (lorD (lshD v 20) (ishD a 8)) k
theorem ish8 : ∀ a : Fin 1024, ishD (a.1 : Int) 8 = (a.1 : Int) * 256 := by decide +kernel
theorem or_lo {X Y k : Nat} (h : X = Y * 256) (hk : k < 256) : X ||| k = X + k := by
  subst h
  have := Nat.shiftLeft_add_eq_or_of_lt (b := k) (i := 8) hk Y
  rw [Nat.shiftLeft_eq] at this
  exact this.symm
theorem pkT_ok {k a v : Int} (k0 : 0 ≤ k) (k1 : k < 256) (a0 : 0 ≤ a) (a1 : a < 1024) (v0 : 0 ≤ v) (v1 : v < 34359738368) : pkT k a v = v * 1048576 + a * 256 + k := by
  obtain ⟨k', rfl⟩ : ∃ n : Nat, k = n := ⟨k.toNat, by omega⟩
  obtain ⟨a', rfl⟩ : ∃ n : Nat, a = n := ⟨a.toNat, by omega⟩
  obtain ⟨v', rfl⟩ : ∃ n : Nat, v = n := ⟨v.toNat, by omega⟩
  unfold pkT
  have e1 := lsh_nat (a := v') (s := 20) (Or.inr rfl) (by omega)
  have e2 := ish8 ⟨a', by omega⟩
  dsimp only at e2
  have p20 : (2 : Nat) ^ 20 = 1048576 := rfl
  have p8 : (2 : Nat) ^ 8 = 256 := rfl
  rw [p20] at e1
  have o1 : v' * 1048576 ||| a' * 256 = v' * 1048576 + a' * 256 := by
    have := Nat.shiftLeft_add_eq_or_of_lt (b := a' * 256) (i := 20) (by rw [p20]; omega) v'
    rw [Nat.shiftLeft_eq, p20] at this
    exact this.symm
  have o2 : (v' * 1048576 + a' * 256) ||| k' = v' * 1048576 + a' * 256 + k' := or_lo (Y := v' * 4096 + a') (by omega) (by omega)
  rw [show ((20 : Nat) : Int) = 20 from rfl] at e1
  rw [e1, e2, show (a' : Int) * 256 = ((a' * 256 : Nat) : Int) by omega, lor_nat (by omega) (by omega) (by rw [o1]; omega), o1, lor_nat (by omega) (by omega) (by rw [o2]; omega), o2]
  omega
theorem pkT_un {k a v : Int} (k0 : 0 ≤ k) (k1 : k < 256) (a0 : 0 ≤ a) (a1 : a < 1024) (v0 : 0 ≤ v) (v1 : v < 34359738368) : w32 (landD (pkT k a v) 255) = k ∧ w32 (landD (lusD (pkT k a v) 8) 1023) = a ∧ lusD (pkT k a v) 20 = v := by
  rw [pkT_ok k0 k1 a0 a1 v0 v1]
  obtain ⟨x, hx⟩ : ∃ n : Nat, v * 1048576 + a * 256 + k = n := ⟨(v * 1048576 + a * 256 + k).toNat, by omega⟩
  rw [hx]
  have b1 := land_nat (a := x) (b := 255) (by omega) (by decide)
  have b2 := lus_nat (a := x) (s := 8) (Or.inl rfl) (by omega)
  have b3 := lus_nat (a := x) (s := 20) (Or.inr rfl) (by omega)
  rw [show ((255 : Nat) : Int) = 255 from rfl] at b1
  rw [show ((8 : Nat) : Int) = 8 from rfl] at b2
  rw [show ((20 : Nat) : Int) = 20 from rfl] at b3
  have m1 : x &&& 255 = x % 256 := Nat.and_two_pow_sub_one_eq_mod x 8
  have b4 := land_nat (a := x / 2 ^ 8) (b := 1023) (by omega) (by decide)
  have m2 : x / 2 ^ 8 &&& 1023 = x / 2 ^ 8 % 1024 := Nat.and_two_pow_sub_one_eq_mod _ 10
  rw [show ((1023 : Nat) : Int) = 1023 from rfl] at b4
  rw [b1, m1, b2, b4, m2, b3]
  refine ⟨?_, ?_, ?_⟩
  · rw [w32_id (by omega) (by omega)]; omega
  · rw [w32_id (by omega) (by omega)]; omega
  · omega
/-! letters, the last first; by 32 and by 256 -/
def r32 : List Int → Int
  | [] => 0
  | l :: ls => r32 ls * 32 + l
def r256 : List Int → Int
  | [] => 0
  | l :: ls => r256 ls * 256 + (96 + l)
def LtOk (ls : List Int) : Prop := ∀ l ∈ ls, 1 ≤ l ∧ l ≤ 26
theorem r32_b : ∀ {ls : List Int}, LtOk ls → 0 ≤ r32 ls ∧ r32 ls < 32 ^ ls.length
  | [], _ => by decide
  | l :: ls, h => by
    have ih := r32_b (ls := ls) (fun x hx => h x (List.mem_cons_of_mem _ hx))
    have hl := h l List.mem_cons_self
    have e : (32 : Int) ^ (l :: ls).length = 32 ^ ls.length * 32 := by rw [List.length_cons, Int.pow_succ]
    rw [e]
    unfold r32
    omega
theorem r256_b : ∀ {ls : List Int}, LtOk ls → 0 ≤ r256 ls ∧ r256 ls < 256 ^ ls.length
  | [], _ => by decide
  | l :: ls, h => by
    have ih := r256_b (ls := ls) (fun x hx => h x (List.mem_cons_of_mem _ hx))
    have hl := h l List.mem_cons_self
    have e : (256 : Int) ^ (l :: ls).length = 256 ^ ls.length * 256 := by rw [List.length_cons, Int.pow_succ]
    rw [e]
    unfold r256
    omega
theorem r32_inj : ∀ {a b : List Int}, LtOk a → LtOk b → r32 a = r32 b → a = b
  | [], [], _, _, _ => rfl
  | [], y :: b, _, hb, e => by
    have := (r32_b (ls := b) (fun x hx => hb x (List.mem_cons_of_mem _ hx))).1
    have := hb y List.mem_cons_self
    unfold r32 at e
    omega
  | x :: a, [], ha, _, e => by
    have := (r32_b (ls := a) (fun x hx => ha x (List.mem_cons_of_mem _ hx))).1
    have := ha x List.mem_cons_self
    unfold r32 at e
    omega
  | x :: a, y :: b, ha, hb, e => by
    have h1 := ha x List.mem_cons_self
    have h2 := hb y List.mem_cons_self
    unfold r32 at e
    have e1 : x = y := by omega
    have e2 : r32 a = r32 b := by omega
    rw [e1, r32_inj (fun x hx => ha x (List.mem_cons_of_mem _ hx)) (fun x hx => hb x (List.mem_cons_of_mem _ hx)) e2]
theorem r256_inj : ∀ {a b : List Int}, LtOk a → LtOk b → r256 a = r256 b → a = b
  | [], [], _, _, _ => rfl
  | [], y :: b, _, hb, e => by
    have := (r256_b (ls := b) (fun x hx => hb x (List.mem_cons_of_mem _ hx))).1
    have := hb y List.mem_cons_self
    unfold r256 at e
    omega
  | x :: a, [], ha, _, e => by
    have := (r256_b (ls := a) (fun x hx => ha x (List.mem_cons_of_mem _ hx))).1
    have := ha x List.mem_cons_self
    unfold r256 at e
    omega
  | x :: a, y :: b, ha, hb, e => by
    have h1 := ha x List.mem_cons_self
    have h2 := hb y List.mem_cons_self
    unfold r256 at e
    have e1 : x = y := by omega
    have e2 : r256 a = r256 b := by omega
    rw [e1, r256_inj (fun x hx => ha x (List.mem_cons_of_mem _ hx)) (fun x hx => hb x (List.mem_cons_of_mem _ hx)) e2]
/-- one word, told either way -/
def WR (a b : Int) : Prop := ∃ ls : List Int, ls.length ≤ 7 ∧ LtOk ls ∧ a = r32 ls ∧ b = r256 ls
theorem WR.inj {a b a' b' : Int} (h1 : WR a b) (h2 : WR a' b') : a = a' ↔ b = b' := by
  obtain ⟨l, -, l1, rfl, rfl⟩ := h1
  obtain ⟨m, -, m1, rfl, rfl⟩ := h2
  exact ⟨fun e => by rw [r32_inj l1 m1 e], fun e => by rw [r256_inj l1 m1 e]⟩
theorem p32_le {n : Nat} (h : n ≤ 7) : (32 : Int) ^ n ≤ 34359738368 := by
  have := Nat.pow_le_pow_right (show 0 < 32 by decide) h
  have e : ((32 ^ n : Nat) : Int) = (32 : Int) ^ n := by simp
  rw [← e]
  omega
theorem p256_le {n : Nat} (h : n ≤ 7) : (256 : Int) ^ n ≤ 72057594037927936 := by
  have := Nat.pow_le_pow_right (show 0 < 256 by decide) h
  have e : ((256 ^ n : Nat) : Int) = (256 : Int) ^ n := by simp
  rw [← e]
  omega
theorem WR.b {a b : Int} (h : WR a b) : (0 ≤ a ∧ a < 34359738368) ∧ 0 ≤ b ∧ b < 72057594037927936 := by
  obtain ⟨l, l0, l1, rfl, rfl⟩ := h
  have a1 := r32_b l1
  have a2 := r256_b l1
  have b1 := p32_le l0
  have b2 := p256_le l0
  omega
/-- the told words, in their order: by 32, by 256 -/
def resL : List (List Int) := [[5, 12, 2, 1, 20], [25, 5, 11], [6, 5, 18], [15, 20], [5, 19, 21, 6, 5, 18], [23, 15, 12, 12, 15, 6], [18, 1, 5, 12, 3], [20, 5, 19, 5, 18], [12, 12, 21, 6], [5, 20, 1, 12], [20, 12, 21, 1, 6, 5, 4], [4, 5, 5, 14], [11, 3, 5, 8, 3], [20, 18, 5, 19, 14, 9], [5, 20, 5, 12, 5, 4], [6, 9], [4, 14, 1], [20, 5, 19], [14, 9, 7, 5, 2], [20, 9, 13, 13, 15, 3], [11, 3, 1, 2], [5, 14, 15, 14], [18, 15], [20, 15, 14], [5, 18, 1, 2], [14, 23, 15, 14, 11], [14, 5, 11, 15, 18, 2], [14, 9], [23, 15, 18]]
def rs32 (i : Int) : Int := r32 (resL.getD i.toNat [])
def rs256 (i : Int) : Int := r256 (resL.getD i.toNat [])
theorem res_ok : ∀ i : Fin 29, (resL.getD i.1 []).length ≤ 7 ∧ ∀ l ∈ resL.getD i.1 [], 1 ≤ l ∧ l ≤ 26 := by decide +kernel
theorem res_wr {i : Int} (i0 : 0 ≤ i) (i1 : i < 29) : WR (rs32 i) (rs256 i) := by
  have := res_ok ⟨i.toNat, by omega⟩
  exact ⟨_, this.1, this.2, rfl, rfl⟩
/-- which told word, or none -/
def kwL : List (List Int) → Int → Int → Int
  | [], _, _ => 4
  | l :: ls, i, w => if r32 l = w then i else kwL ls (i + 1) w
def kwF (w : Int) : Int := kwL resL 128 w
theorem kwL_or : ∀ {ls : List (List Int)} {i w : Int}, (∃ j : Nat, j < ls.length ∧ kwL ls i w = i + j ∧ r32 (ls.getD j []) = w) ∨ (kwL ls i w = 4 ∧ ∀ j : Nat, j < ls.length → r32 (ls.getD j []) ≠ w)
  | [], i, w => Or.inr ⟨rfl, fun j hj => absurd hj (Nat.not_lt_zero _)⟩
  | l :: ls, i, w => by
    unfold kwL
    by_cases h : r32 l = w
    · rw [if_pos h]
      exact Or.inl ⟨0, Nat.zero_lt_succ _, by omega, h⟩
    · rw [if_neg h]
      rcases kwL_or (ls := ls) (i := i + 1) (w := w) with ⟨j, j0, j1, j2⟩ | ⟨j0, j1⟩
      · exact Or.inl ⟨j + 1, by rw [List.length_cons]; omega, by omega, j2⟩
      · refine Or.inr ⟨j0, fun j hj => ?_⟩
        cases j with
        | zero => exact h
        | succ j => exact j1 j (by rw [List.length_cons] at hj; omega)
theorem kwF_or {w : Int} : (∃ i, 0 ≤ i ∧ i < 29 ∧ kwF w = 128 + i ∧ w = rs32 i) ∨ (kwF w = 4 ∧ ∀ i, 0 ≤ i → i < 29 → w ≠ rs32 i) := by
  have hl : resL.length = 29 := rfl
  rcases kwL_or (ls := resL) (i := 128) (w := w) with ⟨j, j0, j1, j2⟩ | ⟨j0, j1⟩
  · exact Or.inl ⟨j, by omega, by omega, j1, by unfold rs32; rw [Int.toNat_natCast]; exact j2.symm⟩
  · refine Or.inr ⟨j0, fun i i0 i1 e => j1 i.toNat (by omega) ?_⟩
    unfold rs32 at e
    exact e.symm
theorem lcm0 {a b : Int} : lcmD a b = 0 ↔ a = b := by
  unfold lcmD
  by_cases h : a < b
  · rw [if_pos h]; exact ⟨fun z => absurd z (by decide), fun z => by omega⟩
  · rw [if_neg h]
    by_cases e : a = b
    · rw [if_pos e]; exact ⟨fun _ => e, fun _ => rfl⟩
    · rw [if_neg e]; exact ⟨fun z => absurd z (by decide), fun z => absurd z e⟩
/-- the class looks a word up in the text of all told words -/
def kwGo : List Int → Int → Int → Int → Int
  | [], _, _, _ => 4
  | b :: bs, i, t, w => if b = 32 then (if t = w then 128 + i else kwGo bs (i + 1) 0 w) else kwGo bs i (t * 32 + (b - 96)) w
def kwB : List Int := kBy.map (fun x => x.toInt)
def kwS (u : List Int) (t : Int) : Int := u.foldl (fun t b => t * 32 + (b - 96)) t
theorem kwGo_w {bs : List Int} {i w : Int} : ∀ {u : List Int} {t : Int}, (∀ b ∈ u, b ≠ 32) → kwGo (u ++ 32 :: bs) i t w = if kwS u t = w then 128 + i else kwGo bs (i + 1) 0 w
  | [], t, _ => by
    show (if (32 : Int) = 32 then (if t = w then 128 + i else kwGo bs (i + 1) 0 w) else kwGo bs i (t * 32 + (32 - 96)) w) = _
    rw [if_pos rfl]
    rfl
  | b :: u, t, h => by
    show (if b = 32 then (if t = w then 128 + i else kwGo (u ++ 32 :: bs) (i + 1) 0 w) else kwGo (u ++ 32 :: bs) i (t * 32 + (b - 96)) w) = _
    rw [if_neg (h b List.mem_cons_self), kwGo_w (fun x hx => h x (List.mem_cons_of_mem _ hx))]
    rfl
def kwV : List Int → Int → Int → Int
  | [], _, _ => 4
  | c :: cs, i, w => if c = w then i else kwV cs (i + 1) w
theorem kwV_L {w : Int} : ∀ {ls : List (List Int)} {i : Int}, kwL ls i w = kwV (ls.map r32) i w
  | [], _ => rfl
  | l :: ls, i => by
    show (if r32 l = w then i else kwL ls (i + 1) w) = if r32 l = w then i else kwV (ls.map r32) (i + 1) w
    rw [kwV_L]
theorem kwGo_all {w : Int} : ∀ {us : List (List Int)} {i : Int}, (∀ u ∈ us, ∀ b ∈ u, b ≠ 32) → kwGo (us.flatMap (fun u => u ++ [32])) i 0 w = kwV (us.map (fun u => kwS u 0)) (128 + i) w
  | [], _, _ => rfl
  | u :: us, i, h => by
    rw [List.flatMap_cons, List.append_assoc]
    show kwGo (u ++ 32 :: (us.flatMap (fun u => u ++ [32]))) i 0 w = _
    rw [kwGo_w (h u List.mem_cons_self), kwGo_all (fun x hx => h x (List.mem_cons_of_mem _ hx)), show (128 : Int) + (i + 1) = 128 + i + 1 by omega]
    rfl
def resB : List (List Int) := resL.map (fun l => l.reverse.map (fun x => x + 96))
theorem resB_ok : kwB = resB.flatMap (fun u => u ++ [32]) ∧ (∀ u ∈ resB, ∀ b ∈ u, b ≠ 32) ∧ resB.map (fun u => kwS u 0) = resL.map r32 := by decide +kernel
theorem kwGo_ok (w : Int) : kwGo kwB 0 0 w = kwF w := by
  rw [resB_ok.1, kwGo_all resB_ok.2.1, resB_ok.2.2, ← kwV_L]
  rfl
