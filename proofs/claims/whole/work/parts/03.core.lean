/-- the kinds of the cells, in the order in which they are made -/
def lay : List Nat := [21, 19, 52, 51, 14, 51, 50, 51, 50, 50, 50, 50, 50, 18, 13, 50, 50, 50, 13, 50, 50, 50, 16, 50, 15, 14, 51, 50, 51, 50, 50, 50, 50, 50, 17, 16, 50, 12, 50, 11, 13, 50, 50, 50, 20, 50, 50, 50, 50, 50, 50, 50, 11, 13, 50, 50, 50, 20, 50, 50, 50, 50, 50, 50, 50, 18, 13, 50, 50, 50, 13, 50, 50, 50, 54, 55, 50, 52, 18, 13, 50, 50, 50, 13, 50, 50, 50, 18, 13, 50, 50, 50, 13, 50, 50, 50, 18, 13, 50, 50, 50, 13, 50, 50, 50, 18, 13, 50, 50, 50, 13, 50, 50, 50, 18, 13, 50, 50, 50, 13, 50, 50, 50, 18, 13, 50, 50, 50, 13, 50, 50, 50, 18, 13, 50, 50, 50, 13, 50, 50, 50, 18, 13, 50, 50, 50, 13, 50, 50, 50, 10, 14, 51, 50, 51, 50, 50, 50, 50, 50, 18, 13, 50, 50, 50, 13, 50, 50, 50, 16, 50, 10, 14, 51, 50, 51, 50, 50, 50, 50, 50, 18, 13, 50, 50, 50, 13, 50, 50, 50, 16, 50, 22, 52, 50, 50, 50, 50, 51, 51, 50, 50, 50, 50, 50, 50, 50, 50, 50, 50, 50, 50, 50, 50, 50, 50, 52, 50, 50, 50, 53, 50, 51, 53, 51]
/-- the kinds of the fields, class by class -/
def fTl : List (List Nat) := [[2, 14, 18, 16], [14, 18, 13, 20, 2, 0, 0, 0, 0, 0, 2, 50, 50, 50, 50, 50, 50], [19, 14, 0, 50], [0, 0, 50, 50, 50], [0, 0, 0, 0, 51, 50, 51, 50, 50, 50, 50, 50], [19, 14, 0, 0, 0, 0], [2, 0, 0, 50], [19, 14, 16], [13, 13, 2], [52, 0, 51, 0, 0, 0, 0, 1, 0, 0], [0, 50], [19, 14, 18, 16, 15, 17, 12, 11, 11, 18, 54, 0, 55, 50, 52, 0, 0, 0, 0], [0, 52, 0, 0, 0, 0, 50, 50, 50, 50, 51, 51, 0, 0, 0, 0, 0, 0, 1, 0, 0, 0, 0, 50, 50, 50, 0, 50, 50, 50, 50, 0, 0, 0, 2, 2, 50, 50, 50, 50, 50, 0, 2, 50, 0, 50, 50, 50, 0, 52, 0, 0, 0, 50, 50, 2, 50, 0, 0, 0, 0, 2, 53, 50, 51, 53]]
/-- calls among nest mates: class, place, method, host -/
def nestL : List (String × Nat × MethodName × String) := [(RX0, 9, yX4_init, "FollowingRefs"), (RX0, 18, yX8_init, "FollowingRefs"), (RX0, 25, yX6_init, "FollowingRefs"), (RX1, 11, yX3_init, "FollowingRefs"), (RX1, 20, yX10_init, "FollowingRefs"), (RX1, 150, yX11_put, "FollowingRefs"), (RX1, 165, yX11_at, "FollowingRefs"), (RX10, 62, yX11_put, "FollowingRefs"), (RX10, 93, yX11_compares, "FollowingRefs"), (RX10, 97, yX11_at, "FollowingRefs"), (RX11, 11, yX9_init, "FollowingRefs"), (RX11, 18, yX4_init, "FollowingRefs"), (RX11, 25, yX8_init, "FollowingRefs"), (RX11, 32, yX6_init, "FollowingRefs"), (RX11, 95, yX0_init, "FollowingRefs"), (RX2, 23, yX11_at, "FollowingRefs"), (RX2, 27, yX11_put, "FollowingRefs"), (RX2, 123, yX11_compares, "FollowingRefs"), (RX3, 28, yX11_copy, "FollowingRefs"), (RX3, 32, yX11_put, "FollowingRefs"), (RX3, 46, yX11_at, "FollowingRefs"), (RX4, 56, yX11_copyWords, "FollowingRefs"), (RX4, 60, yX11_copy, "FollowingRefs"), (RX4, 64, yX11_put, "FollowingRefs"), (RX4, 80, yX11_at, "FollowingRefs"), (RX5, 11, yX4_init, "FollowingRefs"), (RX5, 142, yX11_put, "FollowingRefs"), (RX6, 26, yX11_copy, "FollowingRefs"), (RX6, 30, yX11_put, "FollowingRefs"), (RX6, 34, yX11_at, "FollowingRefs"), (RX6, 65, yX11_compares, "FollowingRefs"), (RX7, 11, yX6_init, "FollowingRefs"), (RX8, 9, yX3_init, "FollowingRefs")]
/-! THE ABSTRACT HEAP: a number for each place of each cell; cells are known by their rank; kinds of cells as they were made. -/
abbrev vV : Type := Nat × Int
abbrev hH : Type := Int → Int → Int
abbrev gG : Type := (Nat → Nat) × (Nat → ClassId)
def w32 (x : Int) : Int := (Int32.ofInt x).toInt
def w64 (x : Int) : Int := (Int64.ofInt x).toInt
abbrev R32 (x : Int) : Prop := w32 x = x
abbrev R64 (x : Int) : Prop := w64 x = x
/-- codes of kinds: 0 a whole number, 1 a long one, 2 true or false, 10 + class an object, 50 int[], 51 long[], 52 byte[], 53 boolean[], 54 State[], 55 Image[]; 100 more: or null -/
def cv (ad : Nat → Nat) (v : vV) : Value := match v.1 with
  | 0 => .int (Int32.ofInt v.2)
  | 1 => .long (Int64.ofInt v.2)
  | 2 => .int (Int32.ofInt v.2)
  | _ => if v.2 < 0 then .null else .ref (ad v.2.toNat)
theorem cv_ge (ad : Nat → Nat) (t : Nat) (y : Int) : cv ad (t + 3, y) = if y < 0 then .null else .ref (ad y.toNat) := rfl
def kd (k : Nat) : Nat := lay.getD k 0
def fT (sg : Bool) (ci j : Nat) : Nat := let t := (fTl.getD ci []).getD j 0; if sg = false ∧ 10 ≤ t then t + 100 else t
def nf (ci : Nat) : Nat := (fTl.getD ci []).length
def eT (T : Nat) : Nat := match T with
  | 51 => 1
  | 53 => 2
  | 54 => 118
  | 55 => 110
  | _ => 0
def hT (n : Int) (T : Nat) (x : Int) : Prop := match T with
  | 0 => R32 x
  | 1 => R64 x
  | 2 => x = 0 ∨ x = 1
  | T => (100 ≤ T ∧ x = -1) ∨ (0 ≤ x ∧ x < n ∧ kd x.toNat = T % 100) ∨ (90 ≤ T ∧ T < 100 ∧ x = 910 + (T : Int))
def nn (h : hH) : Int := h (-1) 0
def cOk (sg : Bool) (n : Int) (T : Nat) (f : Int → Int) : Prop := if 50 ≤ T then 0 ≤ f (-1) ∧ f (-1) < 2147483648 ∧ ∀ j : Int, 0 ≤ j → j < f (-1) → hT n (eT T) (f j) else ∀ j : Nat, j < nf (T - 10) → hT n (fT sg (T - 10) j) (f j)
def hOk (sg : Bool) (h : hH) : Prop := 0 ≤ nn h ∧ nn h ≤ lay.length ∧ ∀ k : Nat, (k : Int) < nn h → cOk sg (nn h) (kd k) (h k)
def cel (G : gG) (T : Nat) (f : Int → Int) : va_E :=
  if T = 50 ∨ T = 52 ∨ T = 53 then .inl (G.2 T, (f (-1)).toNat, .inl (fun j => Int32.ofInt (f j)))
  else if T = 51 then .inl (G.2 T, (f (-1)).toNat, .inr (.inl (fun j => Int64.ofInt (f j))))
  else if 54 ≤ T then .inl (G.2 T, (f (-1)).toNat, .inr (.inr (.inr (.inr (fun j => if f j < 0 then none else some (G.1 (f j).toNat))))))
  else .inr (T - 10, (List.range (nf (T - 10))).map (fun j => cv G.1 (fT true (T - 10) j, f j)))
def wld (G : gG) (h : hH) : va_W := (List.range (nn h).toNat).map (fun k => (G.1 k, cel G (kd k) (h k)))
def hup (h : hH) (k j v : Int) : hH := fun a b => if a = k ∧ b = j then v else h a b
def tyG (G : gG) : List (ClassId × FieldType) := [(G.2 50, .int), (G.2 51, .long), (G.2 52, .byte), (G.2 53, .boolean), (G.2 54, .object RX8), (G.2 55, .object RX0)]
theorem w32_ofInt (x : Int) : Int32.ofInt (w32 x) = Int32.ofInt x := by rw [w32, Int32.ofInt_toInt]
theorem w64_ofInt (x : Int) : Int64.ofInt (w64 x) = Int64.ofInt x := by rw [w64, Int64.ofInt_toInt]
theorem w32_w32 (x : Int) : w32 (w32 x) = w32 x := by unfold w32; rw [Int32.ofInt_toInt]
theorem w64_w64 (x : Int) : w64 (w64 x) = w64 x := by unfold w64; rw [Int64.ofInt_toInt]
theorem R32_w (x : Int) : R32 (w32 x) := w32_w32 x
theorem R64_w (x : Int) : R64 (w64 x) := w64_w64 x
theorem w32_eq (x : Int) : w32 x = x.bmod 4294967296 := Int32.toInt_ofInt
theorem w64_eq (x : Int) : w64 x = x.bmod 18446744073709551616 := Int64.toInt_ofInt
theorem R32_iff (x : Int) : R32 x ↔ -2147483648 ≤ x ∧ x < 2147483648 := by
  unfold R32
  rw [w32_eq, Int.bmod_def]
  omega
theorem w32_id {x : Int} (h1 : -2147483648 ≤ x) (h2 : x < 2147483648) : w32 x = x := (R32_iff x).mpr ⟨h1, h2⟩
theorem R64_iff (x : Int) : R64 x ↔ -9223372036854775808 ≤ x ∧ x < 9223372036854775808 := by
  unfold R64
  rw [w64_eq, Int.bmod_def]
  omega
theorem w64_id {x : Int} (h1 : -9223372036854775808 ≤ x) (h2 : x < 9223372036854775808) : w64 x = x := (R64_iff x).mpr ⟨h1, h2⟩
theorem R32.toI {x : Int} (h : R32 x) : (Int32.ofInt x).toInt = x := h
theorem R64.toI {x : Int} (h : R64 x) : (Int64.ofInt x).toInt = x := h
theorem ofI_lt {x y : Int} (hx : R32 x) (hy : R32 y) : Int32.ofInt x < Int32.ofInt y ↔ x < y := by rw [Int32.lt_iff_toInt_lt, hx.toI, hy.toI]
theorem ofI_eq {x y : Int} (hx : R32 x) (hy : R32 y) : Int32.ofInt x = Int32.ofInt y ↔ x = y := by rw [← Int32.toInt_inj, hx.toI, hy.toI]
theorem hT_R32 {n : Int} {T : Nat} {x : Int} (hT0 : T = 0 ∨ T = 2) (h : hT n T x) : R32 x := by
  rcases hT0 with rfl | rfl
  · exact h
  · rcases h with rfl | rfl <;> decide
theorem nn_hup {h : hH} {k j v : Int} (hk : 0 ≤ k) : nn (hup h k j v) = nn h := by
  simp only [nn, hup]
  rw [if_neg]
  omega
theorem wld_get {G : gG} {h : hH} {k : Int} (h0 : 0 ≤ k) (hk : k < nn h) : (wld G h)[k.toNat]? = some (G.1 k.toNat, cel G (kd k.toNat) (h k)) := by
  have h1 : k.toNat < (nn h).toNat := by omega
  have h2 : ((k.toNat : Nat) : Int) = k := by omega
  simp [wld, List.getElem?_range h1, h2]
theorem wld_set {G : gG} {h : hH} {k j v : Int} (h0 : 0 ≤ k) (hk : k < nn h) : (wld G h).set k.toNat (G.1 k.toNat, cel G (kd k.toNat) (hup h k j v k)) = wld G (hup h k j v) := by
  apply List.ext_getElem?
  intro i
  have hn := nn_hup (h := h) (j := j) (v := v) h0
  by_cases hi : i = k.toNat
  · subst hi
    have hl : k.toNat < (wld G h).length := by simp [wld]; omega
    rw [List.getElem?_set_self hl, wld_get h0 (by rw [hn]; exact hk)]
  · rw [List.getElem?_set_ne (Ne.symm hi)]
    have hne : ¬ ((i : Int) = k) := by omega
    have hc : hup h k j v (i : Int) = h (i : Int) := by
      funext b
      simp [hup, hne]
    simp only [wld, hn, List.getElem?_map]
    cases hr : (List.range (nn h).toNat)[i]? with
    | none => rfl
    | some a =>
      have ha : a = i := by
        have hlt := (List.getElem?_eq_some_iff.mp hr).1
        have := (List.getElem?_eq_some_iff.mp hr).2
        simpa using this.symm
      subst ha
      simp only [Option.map_some, hc]
theorem wld_mem {G : gG} {h : hH} {k : Nat} {q : Nat × va_E} (hq : (wld G h)[k]? = some q) : (k : Int) < nn h ∧ q = (G.1 k, cel G (kd k) (h k)) := by
  have hl := (List.getElem?_eq_some_iff.mp hq).1
  have hk : (k : Int) < nn h := by simp [wld] at hl; omega
  have := wld_get (G := G) (h := h) (k := (k : Int)) (by omega) hk
  simp only [Int.toNat_natCast] at this
  rw [this] at hq
  exact ⟨hk, (Option.some.inj hq).symm⟩
