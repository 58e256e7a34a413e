/-! TOKENS: what they are; the class tells them all apart -/
abbrev lett (b : Int) : Prop := 97 ≤ b ∧ b ≤ 122
abbrev digt (b : Int) : Prop := 48 ≤ b ∧ b ≤ 57
abbrev blnk (b : Int) : Prop := b = 32 ∨ b = 10
abbrev aln (b : Int) : Prop := lett b ∨ digt b
abbrev sgn (b : Int) : Prop := b = 59 ∨ b = 60 ∨ b = 61 ∨ b = 62 ∨ b = 40 ∨ b = 41
def cL (B : Int → Int) (q : Int) : Nat → Int
  | 0 => 0
  | n + 1 => cL B q n + (if lett (B (q + n)) then 1 else 0)
def lsB (B : Int → Int) (q : Int) : Nat → List Int
  | 0 => []
  | n + 1 => (B (q + n) - 96) :: lsB B q n
def dgB (B : Int → Int) (q : Int) : Nat → Int
  | 0 => 0
  | n + 1 => dgB B q n * 10 + (B (q + n) - 48)
theorem cL_b {B : Int → Int} {q : Int} : ∀ n : Nat, 0 ≤ cL B q n ∧ cL B q n ≤ n
  | 0 => ⟨Int.le_refl _, Int.le_refl _⟩
  | n + 1 => by
    have := cL_b (B := B) (q := q) n
    unfold cL
    split <;> omega
theorem lsB_len {B : Int → Int} {q : Int} : ∀ n : Nat, (lsB B q n).length = n
  | 0 => rfl
  | n + 1 => by
    unfold lsB
    rw [List.length_cons, lsB_len n]
theorem lsB_ok {B : Int → Int} {q : Int} : ∀ {n : Nat}, cL B q n = n → LtOk (lsB B q n)
  | 0, _ => fun l hl => absurd hl List.not_mem_nil
  | n + 1, h => by
    have b := cL_b (B := B) (q := q) n
    unfold cL at h
    by_cases z : lett (B (q + n))
    · rw [if_pos z] at h
      have ih := lsB_ok (B := B) (q := q) (n := n) (by omega)
      intro l hl
      unfold lsB at hl
      rcases List.mem_cons.mp hl with e | e
      · rw [e]; omega
      · exact ih l e
    · rw [if_neg z] at h
      omega
theorem dgB_b {B : Int → Int} {q : Int} : ∀ {n : Nat}, cL B q n = 0 → (∀ i, q ≤ i → i < q + n → aln (B i)) → 0 ≤ dgB B q n ∧ dgB B q n < 10 ^ n
  | 0, _, _ => by unfold dgB; decide
  | n + 1, h, ha => by
    have b := cL_b (B := B) (q := q) n
    unfold cL at h
    by_cases z : lett (B (q + n))
    · rw [if_pos z] at h; omega
    · rw [if_neg z] at h
      have ih := dgB_b (B := B) (q := q) (n := n) (by omega) (fun i i0 i1 => ha i i0 (by omega))
      have hd : digt (B (q + n)) := (ha (q + n) (by omega) (by omega)).resolve_left z
      have e : (10 : Int) ^ (n + 1) = 10 ^ n * 10 := Int.pow_succ ..
      rw [e]
      unfold dgB
      omega
def RunT (B : Int → Int) (q : Int) (n : Nat) (k v : Int) : Prop := if cL B q n = n ∧ n ≤ 7 then k = kwF (r32 (lsB B q n)) ∧ v = r32 (lsB B q n) else if cL B q n = 0 ∧ n ≤ 3 then k = 3 ∧ v = dgB B q n else k = 2 ∧ v = 0
def SkipT (B : Int → Int) (L p q : Int) : Prop := p ≤ q ∧ q ≤ L ∧ (∀ i, p ≤ i → i < q → blnk (B i)) ∧ (q < L → ¬ blnk (B q))
def Tk (B : Int → Int) (L M p k a v e : Int) : Prop := ∃ q, SkipT B L p q ∧ ((M < L ∧ M ≤ q ∧ k = 1 ∧ a = M ∧ v = 0 ∧ e = q) ∨ (¬ (M < L ∧ M ≤ q) ∧ ((q = L ∧ k = 0 ∧ a = L ∧ v = 0 ∧ e = L) ∨ (q < L ∧ ¬ aln (B q) ∧ k = (if sgn (B q) then B q else 2) ∧ a = q ∧ v = 0 ∧ e = q + 1) ∨
  (q < L ∧ aln (B q) ∧ ∃ n : Nat, 0 < n ∧ e = q + n ∧ e ≤ L ∧ (∀ i, q ≤ i → i < e → aln (B i)) ∧ (e < L → ¬ aln (B e)) ∧ RunT B q n k v ∧ a = q))))
def Chain (B : Int → Int) (L M n : Int) (K A V E : Int → Int) : Prop := (1 ≤ n ∧ n ≤ M + 1) ∧ (∀ j, 0 ≤ j → j < n → Tk B L M (if j = 0 then 0 else E (j - 1)) (K j) (A j) (V j) (E j)) ∧ (∀ j, 0 ≤ j → j + 1 < n → K j ≠ 0 ∧ K j ≠ 1) ∧ (K (n - 1) = 0 ∨ K (n - 1) = 1)
def TkB (k a v : Int) : Prop := (0 ≤ k ∧ k < 256) ∧ (0 ≤ a ∧ a < 1024) ∧ 0 ≤ v ∧ v < 34359738368
def TokC (h : hH) (n : Int) (K A V : Int → Int) : Prop := h 1 3 = n ∧ n ≤ 901 ∧ ∀ j, 0 ≤ j → j < n → h 3 j = pkT (K j) (A j) (V j) ∧ TkB (K j) (A j) (V j)
def CurC (h : hH) (j : Int) (K A V : Int → Int) : Prop := h 1 4 = j + 1 ∧ h 1 5 = K j ∧ h 1 6 = A j ∧ h 1 7 = V j
def bB (h : hH) : Int → Int := fun i => iadD (h 2 i) 255
/-- the class's word -/
def kwT : List (Int × Int) := (List.range 153).map (fun k => (kwB.take k).foldl (fun (x : Int × Int) b => if b = 32 then (x.1 + 1, 0) else (x.1, x.2 * 32 + (b - 96))) (0, 0))
theorem kwT_ok : ∀ k : Fin 152, let b := (kBy.getD k.1 0).toInt; let x := kwT.getD k.1 (0, 0); let y := kwT.getD (k.1 + 1) (0, 0); b = kwB.getD k.1 0 ∧ (0 ≤ x.1 ∧ x.1 < 100) ∧ (b = 32 → y = (x.1 + 1, 0)) ∧ (b ≠ 32 → y = (x.1, x.2 * 32 + (b - 96)) ∧ w64 (w64 (x.2 * 32) + w32 (w32 (b - 97) + 1)) = y.2) := by decide +kernel
theorem kw_ok (h : hH) (w : Int) : fX9_kindOfWord h w = some (kwF w) := by
  have hlen : kwB.length = 152 := by decide +kernel
  have len : fJ0_length_8abf5 h 1000 = some 152 := by
    unfold fJ0_length_8abf5 fJ0_coder_7d493
    show some (isrD 152 0) = some 152
    decide
  have chr : ∀ k : Nat, k < 152 → fJ0_charAt_5068e h 1000 (k : Int) = some (kwB.getD k 0) := fun k hk => by
    have hs : sget (k : Int) = some (kBy.getD k 0).toInt := by unfold sget; rw [if_pos (by omega), Int.toNat_natCast]
    unfold fJ0_charAt_5068e fJ0_isLatin1_aae02 fJ1_charAt_3b067 fJ0_checkIndex_df160 fJ3_checkIndex_8e157
    simp only [Option.bind_some, if_neg (show ¬ (1 : Int) = 0 by decide)]
    rw [if_neg (by omega), if_pos (by omega), hs]
    simp only [Option.bind_some]
    rw [(sget_ok hs).2.2, (kwT_ok ⟨k, hk⟩).1]
  have key : ∀ (d k : Nat), k + d = 152 → lpO (fX9_kindOfWord_s7 h w) ((kwT.getD k (0, 0)).1, (kwT.getD k (0, 0)).2, (k : Int)) = some (kwGo (kwB.drop k) (kwT.getD k (0, 0)).1 (kwT.getD k (0, 0)).2 w) := by
    intro d
    induction d with
    | zero =>
      intro k hk
      have : k = 152 := by omega
      subst this
      rw [List.drop_of_length_le (by rw [hlen]; exact Nat.le_refl _)]
      refine lpO_inr ?_
      unfold fX9_kindOfWord_s7
      rw [len]
      simp only [Option.bind_some]
      rw [if_neg (by decide)]
      rfl
    | succ d ih =>
      intro k hk
      have hk2 : k < 152 := by omega
      obtain ⟨t0, t1, t2, t3⟩ := kwT_ok ⟨k, hk2⟩
      dsimp only at t0 t1 t2 t3
      have hdrop : kwB.drop k = kwB.getD k 0 :: kwB.drop (k + 1) := by
        rw [List.drop_eq_getElem_cons (by rw [hlen]; exact hk2)]
        congr 1
        rw [List.getD_eq_getElem?_getD, List.getElem?_eq_getElem (by rw [hlen]; exact hk2)]
        rfl
      rw [hdrop]
      have ih' := ih (k + 1) (by omega)
      rw [t0] at t2 t3
      have hchr := chr k hk2
      generalize kwT.getD k (0, 0) = x at *
      generalize kwT.getD (k + 1) (0, 0) = y at *
      generalize kwB.getD k 0 = b at *
      have ecast : ((k + 1 : Nat) : Int) = (k : Int) + 1 := rfl
      rw [ecast] at ih'
      by_cases e : b = 32
      · have ey := t2 e
        by_cases f : x.2 = w
        · refine lpO_inr ?_
          unfold fX9_kindOfWord_s7
          dsimp only
          rw [len]
          simp only [Option.bind_some]
          rw [if_pos (by omega), hchr]
          simp only [Option.bind_some]
          rw [if_pos e, if_pos (lcm0.mpr f), w32_id (by omega) (by omega)]
          unfold kwGo
          rw [if_pos e, if_pos f]
        · have st : fX9_kindOfWord_s7 h w (x.1, x.2, (k : Int)) = some (.inl (y.1, y.2, (k : Int) + 1)) := by
            unfold fX9_kindOfWord_s7
            dsimp only
            rw [len]
            simp only [Option.bind_some]
            rw [if_pos (by omega), hchr]
            simp only [Option.bind_some]
            rw [if_pos e, if_neg (fun z => f (lcm0.mp z)), w32_id (by omega) (by omega), w32_id (by omega) (by omega), ey]
          rw [lpO_inl st, ih', ey]
          show _ = some (if b = 32 then (if x.2 = w then 128 + x.1 else kwGo (kwB.drop (k + 1)) (x.1 + 1) 0 w) else kwGo (kwB.drop (k + 1)) x.1 (x.2 * 32 + (b - 96)) w)
          rw [if_pos e, if_neg f]
      · obtain ⟨ey, ew⟩ := t3 e
        have st : fX9_kindOfWord_s7 h w (x.1, x.2, (k : Int)) = some (.inl (y.1, y.2, (k : Int) + 1)) := by
          unfold fX9_kindOfWord_s7
          dsimp only
          rw [len]
          simp only [Option.bind_some]
          rw [if_pos (by omega), hchr]
          simp only [Option.bind_some]
          rw [if_neg e, ew, w32_id (by omega) (by omega)]
          rw [ey]
        rw [lpO_inl st, ih', ey]
        show _ = some (if b = 32 then (if x.2 = w then 128 + x.1 else kwGo (kwB.drop (k + 1)) (x.1 + 1) 0 w) else kwGo (kwB.drop (k + 1)) x.1 (x.2 * 32 + (b - 96)) w)
        rw [if_neg e]
  have := key 152 0 rfl
  rw [List.drop_zero] at this
  have e0 : kwT.getD 0 (0, 0) = (0, 0) := by decide +kernel
  rw [e0, kwGo_ok] at this
  exact this
theorem iad255b : ∀ x : Int, 0 ≤ iadD x 255 ∧ iadD x 255 < 256 := by
  intro x
  unfold iadD
  have e : (Int32.ofInt x &&& Int32.ofInt 255).toBitVec.toNat ≤ 255 := by
    rw [Int32.toBitVec_and, BitVec.toNat_and]
    exact Nat.and_le_right
  have e2 : (Int32.ofInt x &&& Int32.ofInt 255).toInt = ((Int32.ofInt x &&& Int32.ofInt 255).toBitVec.toNat : Int) := by
    have : (Int32.ofInt x &&& Int32.ofInt 255).toInt = (Int32.ofInt x &&& Int32.ofInt 255).toBitVec.toInt := rfl
    rw [this, BitVec.toInt_eq_toNat_of_lt (by omega)]
  rw [e2, w32_id (by omega) (by omega)]
  omega
section TOK
variable {h : hH}
theorem byteIn_ok (hL : Lay h) {i : Int} (i0 : 0 ≤ i) (i1 : i < 940) : fX9_byteIn h 1 i = some (bB h i) := by
  unfold fX9_byteIn
  rw [if_neg (by omega), ly_1_0 hL, if_pos (by rw [ll_2 hL]; exact i1), aget_in i0 (by rw [ll_2 hL]; exact i1)]
  rfl
theorem isLetter_ok {b : Int} : fX9_isLetter h b = some (if lett b then 1 else 0) := by
  unfold fX9_isLetter
  by_cases a : b < 97
  · rw [if_pos a, if_neg (by omega)]
  · rw [if_neg a]
    by_cases c : 122 < b
    · rw [if_pos c, if_neg (by omega)]
    · rw [if_neg c, if_pos (by omega)]
theorem isDigit_ok {b : Int} : fX9_isDigit h b = some (if digt b then 1 else 0) := by
  unfold fX9_isDigit
  by_cases a : b < 48
  · rw [if_pos a, if_neg (by omega)]
  · rw [if_neg a]
    by_cases c : 57 < b
    · rw [if_pos c, if_neg (by omega)]
    · rw [if_neg c, if_pos (by omega)]
theorem isBlank_ok {b : Int} : fX9_isBlank h b = some (if blnk b then 1 else 0) := by
  unfold fX9_isBlank fX9_isBlank_b12
  by_cases a : b = 32
  · rw [if_pos a, if_pos (Or.inl a)]
  · rw [if_neg a]
    by_cases c : b = 10
    · rw [if_pos c, if_pos (Or.inr c)]
    · rw [if_neg c, if_neg (fun z => z.elim a c)]
theorem isSignC_ok {b : Int} : fX9_isSign h b = some (if sgn b then 1 else 0) := by
  unfold fX9_isSign fX9_isSign_b36 sgn
  by_cases a : b = 59
  · simp [a]
  · by_cases c : b = 60
    · simp [c]
    · by_cases d : b = 61
      · simp [d]
      · by_cases e : b = 62
        · simp [e]
        · by_cases f : b = 40
          · simp [f]
          · by_cases g : b = 41
            · simp [g]
            · simp [a, c, d, e, f, g]
theorem keep_ok' (hL : Lay h) {c k a v : Int} (hc : h 1 3 = c) (c0 : 0 ≤ c) (c1 : c < 901) : fX9_keep h 1 k a v = some (hup (hup h 3 c (pkT k a v)) 1 3 (c + 1)) := by
  unfold fX9_keep
  rw [hc, if_neg (by omega), ly_1_2 hL, if_pos (by rw [ll_3 hL]; exact c1), aput_in c0 (by rw [ll_3 hL]; exact c1)]
  simp only [Option.bind_some, pput]
  rw [hup_off (by decide), hc, w1 (by omega) (by omega)]
  rfl
theorem RunT.tb {B : Int → Int} {q k v a : Int} {n : Nat} (hr : RunT B q n k v) (ha : ∀ i, q ≤ i → i < q + n → aln (B i)) (a0 : 0 ≤ a) (a1 : a < 1024) : TkB k a v := by
  unfold RunT at hr
  by_cases c : cL B q n = n ∧ n ≤ 7
  · rw [if_pos c] at hr
    have b := r32_b (lsB_ok c.1)
    rw [lsB_len] at b
    have p := p32_le c.2
    refine ⟨?_, ⟨a0, a1⟩, by omega, by omega⟩
    rcases kwF_or (w := r32 (lsB B q n)) with ⟨i, i0, i1, e, -⟩ | ⟨e, -⟩ <;> omega
  · rw [if_neg c] at hr
    by_cases d : cL B q n = 0 ∧ n ≤ 3
    · rw [if_pos d] at hr
      have b := dgB_b d.1 ha
      have p : (10 : Int) ^ n ≤ 1000 := by
        have := Nat.pow_le_pow_right (show 0 < 10 by decide) d.2
        have e : ((10 ^ n : Nat) : Int) = (10 : Int) ^ n := by simp
        rw [← e]
        omega
      exact ⟨by omega, ⟨a0, a1⟩, by omega, by omega⟩
    · rw [if_neg d] at hr
      exact ⟨by omega, ⟨a0, a1⟩, by omega, by omega⟩
theorem runEnd (hL : Lay h) {q c i l2 l3 l4 l6 : Int} {m : Nat} (hc : h 1 3 = c) (c0 : 0 ≤ c) (c1 : c < 901) (mp : 0 < m) (hm : m < 10000) (e2 : l2 = cL (bB h) q m) (e3 : l3 = m - cL (bB h) q m) (e4 : cL (bB h) q m = m ∧ m ≤ 7 → l4 = r32 (lsB (bB h) q m)) (e6 : cL (bB h) q m = 0 ∧ m ≤ 3 → l6 = dgB (bB h) q m) : ∃ k v, fX9_keepRun_b107 h 1 q l2 l3 l4 l6 i = some (i, hup (hup h 3 c (pkT k q v)) 1 3 (c + 1)) ∧ RunT (bB h) q m k v := by
  have mb := cL_b (B := bB h) (q := q) m
  have strange : ∀ (g : ¬ (cL (bB h) q m = m ∧ m ≤ 7)) (g2 : ¬ (cL (bB h) q m = 0 ∧ m ≤ 3)), ∃ k v, fX9_keepRun_b153 h 1 q i = some (i, hup (hup h 3 c (pkT k q v)) 1 3 (c + 1)) ∧ RunT (bB h) q m k v := fun g g2 => by
    refine ⟨2, 0, ?_, ?_⟩
    · unfold fX9_keepRun_b153
      rw [keep_ok' hL hc c0 c1]
      rfl
    · unfold RunT
      rw [if_neg g, if_neg g2]
      exact ⟨rfl, rfl⟩
  unfold fX9_keepRun_b107 fX9_keepRun_b132
  by_cases a : l3 = 0
  · rw [if_pos a]
    by_cases b : 7 < l2
    · rw [if_pos b, if_neg (show ¬ l2 = 0 by omega)]
      exact strange (by omega) (by omega)
    · have A : cL (bB h) q m = m ∧ m ≤ 7 := by omega
      rw [if_neg b, kw_ok]
      simp only [Option.bind_some]
      rw [keep_ok' hL hc c0 c1, e4 A]
      refine ⟨_, _, rfl, ?_⟩
      unfold RunT
      rw [if_pos A]
      exact ⟨rfl, rfl⟩
  · rw [if_neg a]
    by_cases b : l2 = 0
    · rw [if_pos b]
      by_cases d : 3 < l3
      · rw [if_pos d]
        exact strange (by omega) (by omega)
      · have D : cL (bB h) q m = 0 ∧ m ≤ 3 := by omega
        rw [if_neg d, keep_ok' hL hc c0 c1, e6 D]
        refine ⟨_, _, rfl, ?_⟩
        unfold RunT
        rw [if_neg (by omega), if_pos D]
        exact ⟨rfl, rfl⟩
    · rw [if_neg b]
      exact strange (by omega) (by omega)
theorem keepRun_ok (hL : Lay h) {L q c : Int} (h1 : h 1 1 = L) (hLb : L ≤ 940) (q0 : 0 ≤ q) (qL : q < L) (ha : aln (bB h q)) (hc : h 1 3 = c) (c0 : 0 ≤ c) (c1 : c < 901) : ∃ (n : Nat) (k v : Int), fX9_keepRun h 1 q = some (q + n, hup (hup h 3 c (pkT k q v)) 1 3 (c + 1)) ∧ 0 < n ∧ q + n ≤ L ∧ (∀ i, q ≤ i → i < q + n → aln (bB h i)) ∧ (q + n < L → ¬ aln (bB h (q + n))) ∧ RunT (bB h) q n k v := by
  unfold fX9_keepRun
  have key := lpO_invG (f := fX9_keepRun_s13 h 1 q) (fun i (a : Int × Int × Int × Int) => (a.1, a.2.1, a.2.2.1, a.2.2.2, i)) L (fun i a => ∃ m : Nat, i = q + m ∧ (∀ j, q ≤ j → j < q + m → aln (bB h j)) ∧ a.1 = cL (bB h) q m ∧ a.2.1 = m - cL (bB h) q m ∧ (cL (bB h) q m = m ∧ m ≤ 7 → a.2.2.1 = r32 (lsB (bB h) q m)) ∧ (cL (bB h) q m = 0 ∧ m ≤ 3 → a.2.2.2 = dgB (bB h) q m)) (fun r => ∃ (n : Nat) (k v : Int), r = (q + n, hup (hup h 3 c (pkT k q v)) 1 3 (c + 1)) ∧ 0 < n ∧ q + n ≤ L ∧ (∀ i, q ≤ i → i < q + n → aln (bB h i)) ∧ (q + n < L → ¬ aln (bB h (q + n))) ∧ RunT (bB h) q n k v) (fun i a i0 i1 hI => ?_) (fun a hI => ?_) (i := q) (a := (0, 0, 0, 0)) q0 (by omega) ⟨0, by omega, fun j a b => by omega, rfl, rfl, fun _ => rfl, fun _ => rfl⟩
  · obtain ⟨r, r1, n, k, v, r2, r3⟩ := key
    exact ⟨n, k, v, by rw [r1, r2], r3⟩
  all_goals
    obtain ⟨l2, l3, l4, l6⟩ := a
    obtain ⟨m, m0, m1, m2, m3, m4, m5⟩ := hI
    dsimp only at m2 m3 m4 m5 ⊢
    have mb := cL_b (B := bB h) (q := q) m
  · have hb := byteIn_ok hL (i := i) (by omega) (by omega)
    unfold fX9_keepRun_s13
    dsimp only
    rw [h1, if_pos i1, hb]
    simp only [Option.bind_some]
    rw [isLetter_ok, isDigit_ok]
    simp only [Option.bind_some]
    have more : aln (bB h i) → ∃ a' : Int × Int × Int × Int, fX9_keepRun_b46 h 1 q l2 l3 l4 l6 i = some (.inl (a'.1, a'.2.1, a'.2.2.1, a'.2.2.2, i + 1)) ∧ ∃ m : Nat, i + 1 = q + m ∧ (∀ j, q ≤ j → j < q + m → aln (bB h j)) ∧ a'.1 = cL (bB h) q m ∧ a'.2.1 = m - cL (bB h) q m ∧ (cL (bB h) q m = m ∧ m ≤ 7 → a'.2.2.1 = r32 (lsB (bB h) q m)) ∧ (cL (bB h) q m = 0 ∧ m ≤ 3 → a'.2.2.2 = dgB (bB h) q m) := by
      intro hal
      have hm1 : ∀ j, q ≤ j → j < q + ((m + 1 : Nat) : Int) → aln (bB h j) := fun j a b => by
        by_cases e : j = i
        · rw [e]; exact hal
        · exact m1 j a (by omega)
      have eq : bB h (q + m) = bB h i := by rw [← m0]
      unfold fX9_keepRun_b46
      rw [hb]
      simp only [Option.bind_some]
      rw [isLetter_ok]
      simp only [Option.bind_some]
      rw [w1 (i := i) (by omega) (by omega)]
      by_cases z : lett (bB h i)
      · rw [if_pos z, if_neg (by decide), w1 (i := l2) (by omega) (by omega)]
        generalize hx : w64 (w64 (l4 * 32) + w32 (w32 (bB h i - 97) + 1)) = x
        refine ⟨(l2 + 1, l3, x, l6), rfl, m + 1, by omega, hm1, ?_, ?_, fun hA => ?_, fun hA => ?_⟩
        · unfold cL
          rw [eq, if_pos z]
          dsimp only
          omega
        · unfold cL
          rw [eq, if_pos z]
          dsimp only
          omega
        · dsimp only
          have hc' : cL (bB h) q (m + 1) = cL (bB h) q m + 1 := by show cL (bB h) q m + (if lett (bB h (q + m)) then 1 else 0) = _; rw [eq, if_pos z]
          have A : cL (bB h) q m = m ∧ m ≤ 7 := by omega
          have b1 := r32_b (lsB_ok A.1)
          rw [lsB_len] at b1
          have p := p32_le A.2
          rw [← hx, m4 A, w32_id (x := bB h i - 97) (by omega) (by omega), w32_id (by omega) (by omega), w64_id (x := r32 (lsB (bB h) q m) * 32) (by omega) (by omega), w64_id (by omega) (by omega)]
          show _ = r32 ((bB h (q + m) - 96) :: lsB (bB h) q m)
          rw [eq]
          show _ = r32 (lsB (bB h) q m) * 32 + (bB h i - 96)
          omega
        · exfalso
          have hc' : cL (bB h) q (m + 1) = cL (bB h) q m + 1 := by show cL (bB h) q m + (if lett (bB h (q + m)) then 1 else 0) = _; rw [eq, if_pos z]
          omega
      · have dg : digt (bB h i) := hal.resolve_left z
        have hc' : cL (bB h) q (m + 1) = cL (bB h) q m := by
          show cL (bB h) q m + (if lett (bB h (q + m)) then 1 else 0) = _
          rw [eq, if_neg z]; omega
        rw [if_neg z, if_pos rfl, w1 (i := l3) (by omega) (by omega)]
        generalize hx : w32 (w32 (l6 * 10) + w32 (bB h i - 48)) = x
        refine ⟨(l2, l3 + 1, l4, x), rfl, m + 1, by omega, hm1, ?_, ?_, fun hA => ?_, fun hA => ?_⟩
        · rw [hc']; exact m2
        · rw [hc']; dsimp only; omega
        · exfalso; omega
        · dsimp only
          have D : cL (bB h) q m = 0 ∧ m ≤ 3 := by omega
          have b1 := dgB_b D.1 m1
          have p : (10 : Int) ^ m ≤ 1000 := by
            have := Nat.pow_le_pow_right (show 0 < 10 by decide) D.2
            have e : ((10 ^ m : Nat) : Int) = (10 : Int) ^ m := by simp
            rw [← e]
            omega
          rw [← hx, m5 D, w32_id (x := bB h i - 48) (by omega) (by omega), w32_id (x := dgB (bB h) q m * 10) (by omega) (by omega), w32_id (by omega) (by omega)]
          show _ = dgB (bB h) q m * 10 + (bB h (q + m) - 48)
          rw [eq]
    by_cases z : lett (bB h i)
    · rw [if_pos z, if_neg (by decide)]
      exact Or.inl (more (Or.inl z))
    · rw [if_neg z, if_pos rfl]
      by_cases y : digt (bB h i)
      · rw [if_pos y, if_neg (by decide)]
        exact Or.inl (more (Or.inr y))
      · rw [if_neg y, if_pos rfl]
        have mp : 0 < m := Nat.pos_of_ne_zero (fun e => by
          have : i = q := by omega
          rw [this] at z y
          exact ha.elim z y)
        obtain ⟨k, v, k1, k2⟩ := runEnd (i := i) (l4 := l4) (l6 := l6) hL hc c0 c1 mp (by omega) m2 m3 m4 m5
        rw [k1]
        refine Or.inr ⟨_, rfl, m, k, v, by rw [m0], mp, by omega, m1, fun _ => ?_, k2⟩
        rw [← m0]
        exact fun w => w.elim z y
  · have mp : 0 < m := Nat.pos_of_ne_zero (fun e => by omega)
    obtain ⟨k, v, k1, k2⟩ := runEnd (i := L) (l4 := l4) (l6 := l6) hL hc c0 c1 mp (by omega) m2 m3 m4 m5
    unfold fX9_keepRun_s13
    dsimp only
    rw [h1, if_neg (Int.lt_irrefl _), k1]
    exact ⟨_, rfl, m, k, v, by rw [m0], mp, by omega, m1, fun w => by omega, k2⟩
end TOK
