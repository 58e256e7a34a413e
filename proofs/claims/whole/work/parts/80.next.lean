/-! TOKENS: the model tells the next one -/
def nxC (a b : Int) : Bool := a == 192 && (b == 4 || b == 12 || b == 13 || b == 14 || b == 15 || b == 18)
theorem nx_lay1 : refT.all (fun q => !(nxC q.1 q.2.1)) = true := by decide +kernel
theorem nx_lay2 : lenT.all (fun q => !(nxC q.1 (-1))) = true := by decide +kernel
def TRm (k v : Int) (g : hH) : Prop := (k = 0 ∧ g 192 12 = 0) ∨ ((k = 1 ∨ k = 2) ∧ g 192 12 = 4) ∨ (k = 3 ∧ g 192 12 = 2 ∧ g 192 15 = v) ∨ (k = 4 ∧ g 192 12 = 1 ∧ WR v (g 192 18) ∧ ∀ i, 0 ≤ i → i < 29 → v ≠ rs32 i) ∨ (∃ i, (0 ≤ i ∧ i < 29) ∧ k = 128 + i ∧ v = rs32 i ∧ g 192 12 = 1 ∧ g 192 18 = rs256 i) ∨ (sgn k ∧ g 192 12 = 3 ∧ g 192 15 = k)
/-- the tape as the model reads it -/
def MB (B : Int → Int) (L M : Int) (g : hH) : Prop := Lay g ∧ g 192 3 = L ∧ g 192 5 = M ∧ (0 ≤ L ∧ L ≤ 940) ∧ (0 ≤ M ∧ M ≤ 900) ∧ ∀ i, 0 ≤ i → i < L → iadD (g 193 i) 255 = B i ∧ 0 ≤ B i ∧ B i < 256
theorem MB.fr {B : Int → Int} {L M : Int} {g g' : hH} (hM : MB B L M g) (hf : Fr nxC g g') : MB B L M g' := by
  obtain ⟨a, b, c, d, e, f⟩ := hM
  have e1 : g' 193 = g 193 := hf.row _ (fun b => by unfold nxC; simp)
  exact ⟨hf.lay a nx_lay1 nx_lay2, by rw [hf 192 3 (by decide)]; exact b, by rw [hf 192 5 (by decide)]; exact c, d, e, by rw [e1]; exact f⟩
section NEXT
variable {B : Int → Int} {L M : Int} {g : hH}
theorem peek_ok (hM : MB B L M g) {p : Int} (hp : g 192 4 = p) (p0 : 0 ≤ p) (pL : p ≤ L) : fX12_peek g 192 = some (if p < L then B p else -1) := by
  obtain ⟨hL, h3, h5, hLb, -, hB⟩ := hM
  unfold fX12_peek
  rw [hp, h3]
  by_cases z : p < L
  · rw [if_pos z, if_pos z, ly_192_1 hL, aget_in p0 (by rw [ll_193 hL]; omega)]
    simp only [Option.bind_some]
    rw [(hB p p0 z).1]
  · rw [if_neg z, if_neg z]
theorem isSmall_ok {b : Int} : fX12_isSmall g b = some (if lett b then 1 else 0) := by
  unfold fX12_isSmall
  by_cases a : b < 97
  · rw [if_pos a, if_neg (by omega)]
  · rw [if_neg a]
    by_cases c : 122 < b
    · rw [if_pos c, if_neg (by omega)]
    · rw [if_neg c, if_pos (by omega)]
theorem isDigitM_ok {b : Int} : fX12_isDigit g b = some (if digt b then 1 else 0) := by
  unfold fX12_isDigit
  by_cases a : b < 48
  · rw [if_pos a, if_neg (by omega)]
  · rw [if_neg a]
    by_cases c : 57 < b
    · rw [if_pos c, if_neg (by omega)]
    · rw [if_neg c, if_pos (by omega)]
theorem lsh8 {w c : Int} (w0 : 0 ≤ w) (w1 : w < 281474976710656) (c0 : 0 ≤ c) (c1 : c < 256) : lorD (lshD w 8) c = w * 256 + c := by
  obtain ⟨w', rfl⟩ : ∃ n : Nat, w = n := ⟨w.toNat, by omega⟩
  obtain ⟨c', rfl⟩ : ∃ n : Nat, c = n := ⟨c.toNat, by omega⟩
  have p8 : (2 : Nat) ^ 8 = 256 := rfl
  have e1 := lsh_nat (a := w') (s := 8) (Or.inl rfl) (by rw [p8]; omega)
  rw [p8, show ((8 : Nat) : Int) = 8 from rfl] at e1
  have o := or_lo (X := w' * 256) (Y := w') (k := c') rfl (by omega)
  rw [e1, lor_nat (by omega) (by omega) (by rw [o]; omega), o]
  omega
/-- a run of letters and digits -/
theorem run_ok (hM : MB B L M g) {q k v : Int} {n : Nat} (hp : g 192 4 = q) (h14 : g 192 14 = 0) (q0 : 0 ≤ q) (n0 : 0 < n) (nL : q + n ≤ L) (ha : ∀ i, q ≤ i → i < q + n → aln (B i)) (he : q + n < L → ¬ aln (B (q + n))) (hr : RunT B q n k v) : ∃ g', fX12_next_b164 g 192 (B q) = some g' ∧ Fr nxC g g' ∧ g' 192 4 = q + n ∧ g' 192 13 = g 192 13 ∧ TRm k v g' := by
  have hLb := hM.2.2.2.1
  unfold fX12_next_b164
  rw [isSmall_ok]
  simp only [Option.bind_some, pput]
  generalize hsm : (if lett (B q) then (1 : Int) else 0) = sm
  have sm01 : (sm = 1 ∧ lett (B q)) ∨ (sm = 0 ∧ ¬ lett (B q)) := by
    by_cases z : lett (B q)
    · rw [if_pos z] at hsm; exact Or.inl ⟨hsm.symm, z⟩
    · rw [if_neg z] at hsm; exact Or.inr ⟨hsm.symm, z⟩
  generalize hx : hup (hup g 192 18 0) 192 15 0 = x
  have fx : Fr nxC g x := by rw [← hx]; exact (Fr.up (by decide)).tr (Fr.up (by decide))
  have x4 : x 192 4 = q := by rw [← hx, hup_ne (by decide), hup_ne (by decide), hp]
  have x14 : x 192 14 = 0 := by rw [← hx, hup_ne (by decide), hup_ne (by decide), h14]
  have x13 : x 192 13 = g 192 13 := by rw [← hx, hup_ne (by decide), hup_ne (by decide)]
  have x18 : x 192 18 = 0 := by rw [← hx, hup_ne (by decide), hup_at]
  have x15 : x 192 15 = 0 := by rw [← hx, hup_at]
  have key := lpO_invG (f := fX12_next_s181 x 192 sm) (fun i (a : hH × Int) => a) (n : Int) (fun i a => ∃ m : Nat, i = m ∧ Fr nxC g a.1 ∧ a.1 192 4 = q + m ∧ a.1 192 14 = m ∧ a.1 192 13 = g 192 13 ∧ Bt a.2 ((sm = 1 → cL B q m = m) ∧ (sm = 0 → cL B q m = 0)) ∧ (0 < m → (sm = 1 → 1 ≤ cL B q m) ∧ (sm = 0 → cL B q m < m)) ∧ (cL B q m = m ∧ m ≤ 7 → a.1 192 18 = r256 (lsB B q m)) ∧ (cL B q m = 0 ∧ m ≤ 3 → a.1 192 15 = dgB B q m)) (fun r => Fr nxC g r ∧ r 192 4 = q + n ∧ r 192 13 = g 192 13 ∧ TRm k v r) (fun i a i0 i1 hI => ?_) (fun a hI => ?_) (i := 0) (a := (x, 1)) (Int.le_refl _) (by omega) ⟨0, rfl, fx, x4.trans (by omega), x14, x13, Or.inl ⟨rfl, fun _ => rfl, fun _ => rfl⟩, fun z => absurd z (by decide), fun _ => x18, fun _ => x15⟩
  · obtain ⟨r, r1, r2⟩ := key
    exact ⟨r, r1, r2⟩
  · obtain ⟨y, al⟩ := a
    obtain ⟨m, rfl, I1, I2, I3, I4, I5, I6, I7, I8⟩ := hI
    dsimp only at I1 I2 I3 I4 I5 I6 I7 I8 ⊢
    have hMy := hM.fr I1
    have pk := peek_ok hMy I2 (by omega) (by omega)
    rw [if_pos (by omega)] at pk
    have hal := ha (q + m) (by omega) (by omega)
    have mb := cL_b (B := B) (q := q) m
    obtain ⟨-, hb0, hb1⟩ := hM.2.2.2.2.2 (q + m) (by omega) (by omega)
    have ecl : cL B q (m + 1) = cL B q m + (if lett (B (q + m)) then 1 else 0) := rfl
    have els : r256 (lsB B q (m + 1)) = r256 (lsB B q m) * 256 + (96 + (B (q + m) - 96)) := rfl
    have edg : dgB B q (m + 1) = dgB B q m * 10 + (B (q + m) - 48) := rfl
    have eq0 : m = 0 → B (q + m) = B q := fun z => by rw [z]; congr 1; simp
    -- what is done with one more byte
    have step : ∀ s0, Bt s0 ((sm = 1 → cL B q (m + 1) = ((m + 1 : Nat) : Int)) ∧ (sm = 0 → cL B q (m + 1) = 0)) → ∃ a' : hH × Int, fX12_next_b221 y 192 sm s0 = some (.inl a') ∧ ∃ m' : Nat, (m : Int) + 1 = m' ∧ Fr nxC g a'.1 ∧ a'.1 192 4 = q + m' ∧ a'.1 192 14 = m' ∧ a'.1 192 13 = g 192 13 ∧ Bt a'.2 ((sm = 1 → cL B q m' = m') ∧ (sm = 0 → cL B q m' = 0)) ∧ (0 < m' → (sm = 1 → 1 ≤ cL B q m') ∧ (sm = 0 → cL B q m' < m')) ∧ (cL B q m' = m' ∧ m' ≤ 7 → a'.1 192 18 = r256 (lsB B q m')) ∧ (cL B q m' = 0 ∧ m' ≤ 3 → a'.1 192 15 = dgB B q m') := by
      intro s0 hs0
      have I6' : (sm = 1 → 1 ≤ cL B q (m + 1)) ∧ (sm = 0 → cL B q (m + 1) < ((m + 1 : Nat) : Int)) := by
        by_cases z : m = 0
        · have e := eq0 z
          rcases sm01 with ⟨w, l⟩ | ⟨w, l⟩
          · refine ⟨fun _ => ?_, fun u => by omega⟩
            rw [ecl, e, if_pos l]; omega
          · refine ⟨fun u => by omega, fun _ => ?_⟩
            rw [ecl, e, if_neg l]; omega
        · have := I6 (by omega)
          refine ⟨fun w => ?_, fun w => ?_⟩
          · rw [ecl]; have := this.1 w; split <;> omega
          · rw [ecl]; have := this.2 w; split <;> omega
      -- the number, the end
      have tail : ∀ (z : hH), Fr nxC g z → z 192 4 = q + m → z 192 14 = m → z 192 13 = g 192 13 → (cL B q (m + 1) = ((m + 1 : Nat) : Int) ∧ m + 1 ≤ 7 → z 192 18 = r256 (lsB B q (m + 1))) → z 192 15 = y 192 15 → ∃ a' : hH × Int, fX12_next_b248 z 192 sm s0 = some (.inl a') ∧ ∃ m' : Nat, (m : Int) + 1 = m' ∧ Fr nxC g a'.1 ∧ a'.1 192 4 = q + m' ∧ a'.1 192 14 = m' ∧ a'.1 192 13 = g 192 13 ∧ Bt a'.2 ((sm = 1 → cL B q m' = m') ∧ (sm = 0 → cL B q m' = 0)) ∧ (0 < m' → (sm = 1 → 1 ≤ cL B q m') ∧ (sm = 0 → cL B q m' < m')) ∧ (cL B q m' = m' ∧ m' ≤ 7 → a'.1 192 18 = r256 (lsB B q m')) ∧ (cL B q m' = 0 ∧ m' ≤ 3 → a'.1 192 15 = dgB B q m') := by
        intro z fz z4 z14 z13 z18 z15
        have last : ∀ (u : hH), Fr nxC g u → u 192 4 = q + m → u 192 14 = m → u 192 13 = g 192 13 → (cL B q (m + 1) = ((m + 1 : Nat) : Int) ∧ m + 1 ≤ 7 → u 192 18 = r256 (lsB B q (m + 1))) → (cL B q (m + 1) = 0 ∧ m + 1 ≤ 3 → u 192 15 = dgB B q (m + 1)) → ∃ a' : hH × Int, fX12_next_b275 u 192 sm s0 = some (.inl a') ∧ ∃ m' : Nat, (m : Int) + 1 = m' ∧ Fr nxC g a'.1 ∧ a'.1 192 4 = q + m' ∧ a'.1 192 14 = m' ∧ a'.1 192 13 = g 192 13 ∧ Bt a'.2 ((sm = 1 → cL B q m' = m') ∧ (sm = 0 → cL B q m' = 0)) ∧ (0 < m' → (sm = 1 → 1 ≤ cL B q m') ∧ (sm = 0 → cL B q m' < m')) ∧ (cL B q m' = m' ∧ m' ≤ 7 → a'.1 192 18 = r256 (lsB B q m')) ∧ (cL B q m' = 0 ∧ m' ≤ 3 → a'.1 192 15 = dgB B q m') := by
          intro u fu u4 u14 u13 u18 u15
          unfold fX12_next_b275
          simp only [pput, Option.bind_some]
          rw [u14, w1 (i := (m : Int)) (by omega) (by omega), hup_ne (by decide), u4, w1 (i := q + m) (by omega) (by omega)]
          generalize ht : hup (hup u 192 14 ((m : Int) + 1)) 192 4 (q + m + 1) = t
          refine ⟨(t, s0), rfl, m + 1, rfl, fu.tr (by rw [← ht]; exact (Fr.up (by decide)).tr (Fr.up (by decide))), ?_, ?_, ?_, hs0, fun _ => I6', fun w => ?_, fun w => ?_⟩
          · dsimp only; rw [← ht, hup_at]; omega
          · dsimp only; rw [← ht, hup_ne (by decide), hup_at]; rfl
          · dsimp only; rw [← ht, hup_ne (by decide), hup_ne (by decide)]; exact u13
          · dsimp only; rw [← ht, hup_ne (by decide), hup_ne (by decide)]; exact u18 w
          · dsimp only; rw [← ht, hup_ne (by decide), hup_ne (by decide)]; exact u15 w
        unfold fX12_next_b248
        rw [z14]
        by_cases c3 : (m : Int) < 3
        · rw [if_pos c3]
          have pz := peek_ok (hM.fr fz) z4 (by omega) (by omega)
          rw [if_pos (by omega)] at pz
          rw [pz]
          simp only [Option.bind_some, pput]
          rw [z15]
          generalize hu : hup z 192 15 (w32 (w32 (w32 (10 * y 192 15) + B (q + m)) - 48)) = u
          refine last u (fz.tr (by rw [← hu]; exact Fr.up (by decide))) (by rw [← hu, hup_ne (by decide)]; exact z4) (by rw [← hu, hup_ne (by decide)]; exact z14) (by rw [← hu, hup_ne (by decide)]; exact z13) (fun w => by rw [← hu, hup_ne (by decide)]; exact z18 w) (fun w => ?_)
          have D : cL B q m = 0 ∧ m ≤ 3 := by
            rw [ecl] at w
            have w1 := w.1
            split at w1 <;> omega
          have nl : ¬ lett (B (q + m)) := fun l => by
            rw [ecl, if_pos l] at w; omega
          have dg : digt (B (q + m)) := hal.resolve_left nl
          have b1 := dgB_b D.1 (fun i a b => ha i a (by omega))
          have p : (10 : Int) ^ m ≤ 1000 := by
            have := Nat.pow_le_pow_right (show 0 < 10 by decide) D.2
            have e : ((10 ^ m : Nat) : Int) = (10 : Int) ^ m := by simp
            rw [← e]
            omega
          rw [← hu, hup_at, I8 D, w32_id (x := 10 * dgB B q m) (by omega) (by omega), w32_id (x := 10 * dgB B q m + B (q + m)) (by omega) (by omega), w32_id (by omega) (by omega), edg]
          omega
        · rw [if_neg c3]
          exact last z fz z4 z14 z13 z18 (fun w => by omega)
      unfold fX12_next_b221
      rw [I3]
      by_cases c7 : (m : Int) < 7
      · rw [if_pos c7, pk]
        simp only [Option.bind_some, pput]
        generalize hz : hup y 192 18 (lorD (lshD (y 192 18) 8) (B (q + m))) = z
        refine tail z (I1.tr (by rw [← hz]; exact Fr.up (by decide))) (by rw [← hz, hup_ne (by decide)]; exact I2) (by rw [← hz, hup_ne (by decide)]; exact I3) (by rw [← hz, hup_ne (by decide)]; exact I4) (fun w => ?_) (by rw [← hz, hup_ne (by decide)])
        have A : cL B q m = m ∧ m ≤ 7 := by
          rw [ecl] at w
          have w1 := w.1
          split at w1 <;> omega
        have b1 := r256_b (lsB_ok A.1)
        rw [lsB_len] at b1
        have p : (256 : Int) ^ m ≤ 281474976710656 := by
          have := Nat.pow_le_pow_right (show 0 < 256 by decide) (show m ≤ 6 by omega)
          have e : ((256 ^ m : Nat) : Int) = (256 : Int) ^ m := by simp
          rw [← e]
          omega
        rw [← hz, hup_at, I7 A, lsh8 (by omega) (by omega) hb0 hb1, els]
        omega
      · rw [if_neg c7]
        exact tail y I1 I2 I3 I4 (fun w => by omega) rfl
    have go : ∃ a' : hH × Int, fX12_next_b201 y 192 sm al = some (.inl a') ∧ ∃ m' : Nat, (m : Int) + 1 = m' ∧ Fr nxC g a'.1 ∧ a'.1 192 4 = q + m' ∧ a'.1 192 14 = m' ∧ a'.1 192 13 = g 192 13 ∧ Bt a'.2 ((sm = 1 → cL B q m' = m') ∧ (sm = 0 → cL B q m' = 0)) ∧ (0 < m' → (sm = 1 → 1 ≤ cL B q m') ∧ (sm = 0 → cL B q m' < m')) ∧ (cL B q m' = m' ∧ m' ≤ 7 → a'.1 192 18 = r256 (lsB B q m')) ∧ (cL B q m' = 0 ∧ m' ≤ 3 → a'.1 192 15 = dgB B q m') := by
      unfold fX12_next_b201 fX12_next_b220
      rcases I5 with ⟨rfl, z⟩ | ⟨rfl, z⟩
      · rw [if_neg (by decide), pk]
        simp only [Option.bind_some]
        rw [isSmall_ok]
        simp only [Option.bind_some]
        by_cases l : lett (B (q + m))
        · rw [if_pos l]
          by_cases s : (1 : Int) = sm
          · rw [if_pos s]
            refine step 1 (Or.inl ⟨rfl, fun w => ?_, fun w => by omega⟩)
            rw [ecl, if_pos l, z.1 w]
            rfl
          · rw [if_neg s]
            refine step 0 (Or.inr ⟨rfl, fun w => ?_⟩)
            have s0 : sm = 0 := by omega
            have := w.2 s0
            rw [ecl, if_pos l] at this
            omega
        · rw [if_neg l]
          by_cases s : (0 : Int) = sm
          · rw [if_pos s]
            refine step 1 (Or.inl ⟨rfl, fun w => by omega, fun w => ?_⟩)
            rw [ecl, if_neg l, z.2 w]
            rfl
          · rw [if_neg s]
            refine step 0 (Or.inr ⟨rfl, fun w => ?_⟩)
            have s1 : sm = 1 := by omega
            have := w.1 s1
            rw [ecl, if_neg l] at this
            omega
      · rw [if_pos rfl]
        refine step 0 (Or.inr ⟨rfl, fun w => z ⟨fun u => ?_, fun u => ?_⟩⟩)
        · have := w.1 u
          rw [ecl] at this
          split at this <;> omega
        · have := w.2 u
          rw [ecl] at this
          split at this <;> omega
    unfold fX12_next_s181
    dsimp only
    rw [pk]
    simp only [Option.bind_some]
    rw [isSmall_ok, isDigitM_ok]
    simp only [Option.bind_some]
    by_cases l : lett (B (q + m))
    · rw [if_pos l, if_neg (by decide)]
      exact Or.inl go
    · rw [if_neg l, if_pos rfl, if_pos (hal.resolve_left l), if_neg (by decide)]
      exact Or.inl go
  · obtain ⟨y, al⟩ := a
    obtain ⟨m, hm, I1, I2, I3, I4, I5, I6, I7, I8⟩ := hI
    have : m = n := by omega
    subst this
    dsimp only at I1 I2 I3 I4 I5 I6 I7 I8 ⊢
    have hMy := hM.fr I1
    have pk := peek_ok hMy I2 (by omega) (by omega)
    have nal : ¬ lett (if q + m < L then B (q + m) else -1) ∧ ¬ digt (if q + m < L then B (q + m) else -1) := by
      by_cases z : q + m < L
      · rw [if_pos z]
        exact ⟨fun w => he z (Or.inl w), fun w => he z (Or.inr w)⟩
      · rw [if_neg z]
        exact ⟨fun w => by omega, fun w => by omega⟩
    have I6' := I6 n0
    unfold fX12_next_s181
    dsimp only
    rw [pk]
    simp only [Option.bind_some]
    rw [isSmall_ok, isDigitM_ok]
    simp only [Option.bind_some]
    rw [if_neg nal.1, if_neg nal.2, if_pos rfl, if_pos rfl]
    -- the token that it is
    have tok : ∀ t, ((t = 4 ∧ k = 2) ∨ (t = 2 ∧ k = 3 ∧ y 192 15 = v) ∨ (t = 1 ∧ k = kwF v ∧ WR v (y 192 18))) → ∃ r, fX12_next_b333 y t 192 = some r ∧ Fr nxC g r ∧ r 192 4 = q + m ∧ r 192 13 = g 192 13 ∧ TRm k v r := by
      intro t ht
      unfold fX12_next_b333
      refine ⟨_, rfl, I1.tr (Fr.up (by decide)), by rw [hup_ne (by decide)]; exact I2, by rw [hup_ne (by decide)]; exact I4, ?_⟩
      unfold TRm
      rw [hup_at, hup_ne (by decide), hup_ne (by decide)]
      rcases ht with ⟨rfl, rfl⟩ | ⟨rfl, rfl, e⟩ | ⟨rfl, e, w⟩
      · exact Or.inr (Or.inl ⟨Or.inr rfl, rfl⟩)
      · exact Or.inr (Or.inr (Or.inl ⟨rfl, rfl, e⟩))
      · rcases kwF_or (w := v) with ⟨i, i0, i1, e1, e2⟩ | ⟨e1, e2⟩
        · refine Or.inr (Or.inr (Or.inr (Or.inr (Or.inl ⟨i, ⟨i0, i1⟩, e.trans e1, e2, rfl, ?_⟩))))
          exact (w.inj (res_wr i0 i1)).mp e2
        · exact Or.inr (Or.inr (Or.inr (Or.inl ⟨e.trans e1, rfl, w, e2⟩)))
    have mb := cL_b (B := B) (q := q) m
    unfold RunT at hr
    unfold fX12_next_b320 fX12_next_b317 fX12_next_b320
    by_cases A : cL B q m = m ∧ m ≤ 7
    · rw [if_pos A] at hr
      have s1 : sm = 1 := by rcases sm01 with w | w <;> omega
      rcases I5 with ⟨rfl, z⟩ | ⟨rfl, z⟩
      · rw [if_neg (by decide), if_neg (show ¬ sm = 0 by omega), I3, if_neg (by omega), if_neg (show ¬ sm = 0 by omega)]
        obtain ⟨r, r1, r2⟩ := tok 1 (Or.inr (Or.inr ⟨rfl, by rw [hr.2]; exact hr.1, lsB B q m, by rw [lsB_len]; exact A.2, lsB_ok A.1, hr.2, I7 A⟩))
        rw [r1]
        exact ⟨r, rfl, r2⟩
      · exact absurd ⟨fun _ => A.1, fun u => by omega⟩ z
    · rw [if_neg A] at hr
      by_cases D : cL B q m = 0 ∧ m ≤ 3
      · rw [if_pos D] at hr
        have s0 : sm = 0 := by rcases sm01 with w | w <;> omega
        rcases I5 with ⟨rfl, z⟩ | ⟨rfl, z⟩
        · rw [if_neg (by decide), if_pos s0, I3, if_neg (by omega), if_pos s0]
          obtain ⟨r, r1, r2⟩ := tok 2 (Or.inr (Or.inl ⟨rfl, hr.1, by rw [I8 D]; exact hr.2.symm⟩))
          rw [r1]
          exact ⟨r, rfl, r2⟩
        · exact absurd ⟨fun u => by omega, fun _ => D.1⟩ z
      · rw [if_neg D] at hr
        obtain ⟨r, r1, r2⟩ := tok 4 (Or.inl ⟨rfl, hr.1⟩)
        rcases I5 with ⟨rfl, z⟩ | ⟨rfl, z⟩
        · rw [if_neg (by decide)]
          rcases sm01 with ⟨s, -⟩ | ⟨s, -⟩
          · have := z.1 s
            rw [if_neg (show ¬ sm = 0 by omega), I3, if_pos (by omega), r1]
            exact ⟨r, rfl, r2⟩
          · have := z.2 s
            rw [if_pos s, I3, if_pos (by omega), r1]
            exact ⟨r, rfl, r2⟩
        · rw [if_pos rfl, r1]
          exact ⟨r, rfl, r2⟩
theorem scan_ok' (hM : MB B L M g) {p k a v e : Int} (hp : g 192 4 = p) (p0 : 0 ≤ p) (ht : Tk B L M p k a v e) : ∃ g', fX12_next g 192 = some g' ∧ Fr nxC g g' ∧ g' 192 4 = e ∧ g' 192 13 = a ∧ TRm k v g' := by
  obtain ⟨q, ⟨s1, s2, s3, s4⟩, hT⟩ := ht
  have hLb := hM.2.2.2.1
  unfold fX12_next
  -- behind the blanks
  have skip : ∀ (d : Nat) (y : hH), (q - y 192 4).toNat = d → p ≤ y 192 4 → y 192 4 ≤ q → Fr nxC g y → ∃ y', lpO (fX12_next_s0 g 192) y = lpO (fX12_next_s0 g 192) y' ∧ Fr nxC g y' ∧ y' 192 4 = q := by
    intro d
    induction d with
    | zero => intro y hd y0 y1 fy; exact ⟨y, rfl, fy, by omega⟩
    | succ d ih =>
      intro y hd y0 y1 fy
      have pk := peek_ok (hM.fr fy) (p := y 192 4) rfl (by omega) (by omega)
      rw [if_pos (by omega)] at pk
      have hb := s3 (y 192 4) y0 (by omega)
      have st : fX12_next_s0 g 192 y = some (.inl (hup y 192 4 (y 192 4 + 1))) := by
        unfold fX12_next_s0 fX12_next_b18
        rw [pk]
        simp only [Option.bind_some, pput]
        rw [w1 (by omega) (by omega)]
        rcases hb with z | z
        · rw [if_pos z]
        · rw [if_neg (by omega), if_pos z]
      rw [lpO_inl st]
      exact ih _ (by rw [hup_at]; omega) (by rw [hup_at]; omega) (by rw [hup_at]; omega) (fy.tr (Fr.up (by decide)))
  obtain ⟨y, e1, fy, y4⟩ := skip _ g rfl (by omega) (by omega) Fr.rf
  rw [e1]
  have hMy := hM.fr fy
  have pk := peek_ok hMy y4 (by omega) s2
  generalize hx : hup (hup y 192 13 q) 192 14 0 = x
  have fx : Fr nxC g x := fy.tr (by rw [← hx]; exact (Fr.up (by decide)).tr (Fr.up (by decide)))
  have hMx := hM.fr fx
  have x4 : x 192 4 = q := by rw [← hx, hup_ne (by decide), hup_ne (by decide)]; exact y4
  have x13 : x 192 13 = q := by rw [← hx, hup_ne (by decide), hup_at]
  have x14 : x 192 14 = 0 := by rw [← hx, hup_at]
  have nb : ¬ (if q < L then B q else (-1 : Int)) = 32 ∧ ¬ (if q < L then B q else (-1 : Int)) = 10 := by
    by_cases z : q < L
    · rw [if_pos z]
      have := s4 z
      omega
    · rw [if_neg z]; decide
  have pkx := peek_ok hMx x4 (by omega) s2
  -- the one round that ends it
  have fin : (∃ g', (if M < L then if q < M then fX12_next_b80 x 192 else (some (hup (hup x 192 13 M) 192 12 4)) else fX12_next_b80 x 192) = some g' ∧ Fr nxC g g' ∧ g' 192 4 = e ∧ g' 192 13 = a ∧ TRm k v g') → ∃ g', lpO (fX12_next_s0 g 192) y = some g' ∧ Fr nxC g g' ∧ g' 192 4 = e ∧ g' 192 13 = a ∧ TRm k v g' := by
    rintro ⟨g', h1, h2⟩
    refine ⟨g', lpO_inr ?_, h2⟩
    unfold fX12_next_s0
    rw [pk]
    simp only [Option.bind_some, pput]
    rw [if_neg nb.1, if_neg nb.2, y4, hx, hMx.2.2.1, hMx.2.1, x4]
    by_cases z : M < L
    · rw [if_pos z] at h1 ⊢
      by_cases w : q < M
      · rw [if_pos w] at h1 ⊢
        rw [h1]; rfl
      · rw [if_neg w] at h1 ⊢
        cases h1
        rfl
    · rw [if_neg z] at h1 ⊢
      rw [h1]; rfl
  refine fin ?_
  rcases hT with ⟨c1, c2, rfl, rfl, rfl, rfl⟩ | ⟨nc, hT⟩
  · rw [if_pos c1, if_neg (by omega)]
    refine ⟨_, rfl, fx.tr ((Fr.up (by decide)).tr (Fr.up (by decide))), ?_, ?_, ?_⟩
    · rw [hup_ne (by decide), hup_ne (by decide)]; exact x4
    · rw [hup_ne (by decide), hup_at]
    · exact Or.inr (Or.inl ⟨Or.inl rfl, hup_at⟩)
  · have e80 : (if M < L then if q < M then fX12_next_b80 x 192 else (some (hup (hup x 192 13 M) 192 12 4)) else fX12_next_b80 x 192) = fX12_next_b80 x 192 := by
      by_cases z : M < L
      · rw [if_pos z, if_pos (by omega)]
      · rw [if_neg z]
    rw [e80]
    unfold fX12_next_b80
    rw [pkx]
    simp only [Option.bind_some]
    rcases hT with ⟨rfl, rfl, rfl, rfl, rfl⟩ | ⟨ql, nal, rfl, rfl, rfl, rfl⟩ | ⟨ql, hal, n, n0, rfl, nL, ha, he, hr, rfl⟩
    · rw [if_neg (Int.lt_irrefl _), if_pos (by decide)]
      simp only [pput, Option.bind_some]
      refine ⟨_, rfl, fx.tr (Fr.up (by decide)), ?_, ?_, Or.inl ⟨rfl, hup_at⟩⟩
      · rw [hup_ne (by decide)]; exact x4
      · rw [hup_ne (by decide)]; exact x13
    · obtain ⟨-, b0, b1⟩ := hM.2.2.2.2.2 a (by omega) ql
      rw [if_pos ql, if_neg (by omega), isSmall_ok, isDigitM_ok]
      simp only [Option.bind_some]
      rw [if_neg (fun w => nal (Or.inl w)), if_neg (fun w => nal (Or.inr w)), if_pos rfl, if_pos rfl]
      have tok : ∀ t, ((t = 3 ∧ sgn (B a)) ∨ (t = 4 ∧ ¬ sgn (B a))) → ∃ g', fX12_next_b145 x 192 (B a) t 192 = some g' ∧ Fr nxC g g' ∧ g' 192 4 = a + 1 ∧ g' 192 13 = a ∧ TRm (if sgn (B a) then B a else 2) 0 g' := by
        intro t ht
        unfold fX12_next_b145
        simp only [pput, Option.bind_some]
        rw [hup_ne (by decide), hup_ne (by decide), x4, w1 (by omega) (by omega)]
        refine ⟨_, rfl, fx.tr (((Fr.up (by decide)).tr (Fr.up (by decide))).tr (Fr.up (by decide))), hup_at, ?_, ?_⟩
        · rw [hup_ne (by decide), hup_ne (by decide), hup_ne (by decide)]; exact x13
        · unfold TRm
          rw [hup_ne (by decide), hup_ne (by decide), hup_at, hup_ne (by decide), hup_at]
          rcases ht with ⟨rfl, s⟩ | ⟨rfl, s⟩
          · rw [if_pos s]
            exact Or.inr (Or.inr (Or.inr (Or.inr (Or.inr ⟨s, rfl, rfl⟩))))
          · rw [if_neg s]
            exact Or.inr (Or.inl ⟨Or.inr rfl, rfl⟩)
      unfold fX12_next_b140 fX12_next_b144
      by_cases c59 : B a = 59
      · rw [if_pos c59]; exact tok 3 (Or.inl ⟨rfl, by unfold sgn; omega⟩)
      · rw [if_neg c59]
        by_cases c40 : B a = 40
        · rw [if_pos c40]; exact tok 3 (Or.inl ⟨rfl, by unfold sgn; omega⟩)
        · rw [if_neg c40]
          by_cases c41 : B a = 41
          · rw [if_pos c41]; exact tok 3 (Or.inl ⟨rfl, by unfold sgn; omega⟩)
          · rw [if_neg c41]
            by_cases c60 : B a < 60
            · rw [if_pos c60]; exact tok 4 (Or.inr ⟨rfl, by unfold sgn; omega⟩)
            · rw [if_neg c60]
              by_cases c62 : 62 < B a
              · rw [if_pos c62]; exact tok 4 (Or.inr ⟨rfl, by unfold sgn; omega⟩)
              · rw [if_neg c62]; exact tok 3 (Or.inl ⟨rfl, by unfold sgn; omega⟩)
    · have run := run_ok hMx (k := k) (v := v) x4 x14 (by omega) n0 nL ha he hr
      obtain ⟨g', r1, r2, r3, r4, r5⟩ := run
      rw [if_pos ql, isSmall_ok, isDigitM_ok]
      simp only [Option.bind_some]
      have nn : ¬ B a < 0 := by omega
      rw [if_neg nn]
      have res : ∃ g', fX12_next_b164 x 192 (B a) = some g' ∧ Fr nxC g g' ∧ g' 192 4 = a + n ∧ g' 192 13 = a ∧ TRm k v g' := ⟨g', r1, fx.tr r2, r3, r4.trans x13, r5⟩
      by_cases l : lett (B a)
      · rw [if_pos l, if_neg (by decide)]; exact res
      · rw [if_neg l, if_pos rfl, if_pos (hal.resolve_left l), if_neg (by decide)]; exact res
end NEXT
