/-! READING: class and model at the same token, in two heaps -/
section SIM
variable {B : Int → Int} {L M n : Int} {K A V E : Int → Int}
def Res0 (g : hH) : Prop := ∀ i, 0 ≤ i → i < 29 → g 199 i = rs256 i
/-- the told words, and no fault yet -/
def ResM (g : hH) : Prop := Res0 g ∧ g 192 16 = 0
def SC (n : Int) (K A V : Int → Int) (j : Int) (c : hH) : Prop := Lay c ∧ TokC c n K A V ∧ CurC c j K A V ∧ 0 ≤ j ∧ j < n
def SM (B : Int → Int) (L M n : Int) (K A V E : Int → Int) (j : Int) (g : hH) : Prop := MB B L M g ∧ (g 192 4 = E j ∧ g 192 13 = A j ∧ TRm (K j) (V j) g) ∧ ResM g ∧ 0 ≤ j ∧ j < n
def nx (n j : Int) : Int := if j + 1 < n then j + 1 else j
def FRc (k a : Int) (c : hH) : Prop := c 1 8 = k ∧ c 1 9 = a
def FRm (k a : Int) (g : hH) : Prop := g 192 16 = k ∧ g 192 17 = a
/-- what text itself changes -/
def tkF (a b : Int) : Bool := a == 1 && decide (4 ≤ b) && decide (b ≤ 9)
def txF (a b : Int) : Bool := nxC a b || (a == 192 && (b == 16 || b == 17 || b == 19))
theorem tkF_lay1 : refT.all (fun q => !(tkF q.1 q.2.1)) = true := by decide +kernel
theorem tkF_lay2 : lenT.all (fun q => !(tkF q.1 (-1))) = true := by decide +kernel
theorem txF_lay1 : refT.all (fun q => !(txF q.1 q.2.1)) = true := by decide +kernel
theorem txF_lay2 : lenT.all (fun q => !(txF q.1 (-1))) = true := by decide +kernel
theorem SC.per {j : Int} {c c' : hH} (h : SC n K A V j c) (hL : Lay c') (e3 : c' 3 = c 3) (e1 : ∀ b, 3 ≤ b → b ≤ 7 → c' 1 b = c 1 b) : SC n K A V j c' := by
  obtain ⟨-, ⟨t1, t2, t3⟩, ⟨u1, u2, u3, u4⟩, j0, j1⟩ := h
  refine ⟨hL, ⟨by rw [e1 3 (by decide) (by decide)]; exact t1, t2, by rw [e3]; exact t3⟩, ⟨by rw [e1 4 (by decide) (by decide)]; exact u1, by rw [e1 5 (by decide) (by decide)]; exact u2, by rw [e1 6 (by decide) (by decide)]; exact u3, by rw [e1 7 (by decide) (by decide)]; exact u4⟩, j0, j1⟩
theorem SM.per {j : Int} {g g' : hH} (h : SM B L M n K A V E j g) (hL : Lay g') (e3 : g' 193 = g 193) (e9 : g' 199 = g 199) (e1 : ∀ b, (b = 3 ∨ b = 4 ∨ b = 5 ∨ b = 12 ∨ b = 13 ∨ b = 15 ∨ b = 16 ∨ b = 18) → g' 192 b = g 192 b) : SM B L M n K A V E j g' := by
  obtain ⟨⟨-, m1, m2, m3, m4, m5⟩, ⟨u1, u2, u3⟩, r, j0, j1⟩ := h
  refine ⟨⟨hL, by rw [e1 3 (by omega)]; exact m1, by rw [e1 5 (by omega)]; exact m2, m3, m4, by rw [e3]; exact m5⟩, ⟨by rw [e1 4 (by omega)]; exact u1, by rw [e1 13 (by omega)]; exact u2, ?_⟩, ⟨by unfold Res0; rw [e9]; exact r.1, by rw [e1 16 (by omega)]; exact r.2⟩, j0, j1⟩
  unfold TRm at u3 ⊢
  rw [e1 12 (by omega), e1 15 (by omega), e1 18 (by omega)]
  exact u3
theorem stepC {j : Int} {c : hH} (hC : Chain B L M n K A V E) (h : SC n K A V j c) : ∃ c', fX9_step c 1 = some c' ∧ SC n K A V (nx n j) c' ∧ Fr tkF c c' ∧ c' 1 8 = c 1 8 ∧ c' 1 9 = c 1 9 := by
  obtain ⟨hL, hT, hU, j0, j1⟩ := h
  unfold nx
  by_cases z : j + 1 < n
  · rw [if_pos z]
    obtain ⟨c', k1, k2, k3⟩ := step_c hL hT hU.1 (by omega) z
    have fr : Fr tkF c c' := fun a b w => k3 a b (fun y => by obtain ⟨rfl, y1, y2⟩ := y; unfold tkF at w; simp at w; omega)
    have Lc := fr.lay hL tkF_lay1 tkF_lay2
    refine ⟨c', k1, ⟨Lc, ⟨by rw [k3 1 3 (by omega)]; exact hT.1, hT.2.1, ?_⟩, k2, by omega, z⟩, fr, k3 1 8 (by omega), k3 1 9 (by omega)⟩
    have : c' 3 = c 3 := funext (fun b => k3 3 b (by omega))
    rw [this]; exact hT.2.2
  · rw [if_neg z]
    have : j + 1 = n := by omega
    exact ⟨c, step_last hL hT (by rw [hU.1, this]) (by omega), ⟨hL, hT, hU, j0, j1⟩, Fr.rf, rfl, rfl⟩
theorem nextM {j : Int} {g : hH} (hC : Chain B L M n K A V E) (h : SM B L M n K A V E j g) : ∃ g', fX12_next g 192 = some g' ∧ SM B L M n K A V E (nx n j) g' ∧ Fr nxC g g' := by
  obtain ⟨hM, ⟨u1, u2, u3⟩, hR, j0, j1⟩ := h
  obtain ⟨-, c2, c3, c4⟩ := hC
  have fin : ∀ i, 0 ≤ i → i < n → Tk B L M (E j) (K i) (A i) (V i) (E i) → 0 ≤ E j → ∃ g', fX12_next g 192 = some g' ∧ SM B L M n K A V E i g' ∧ Fr nxC g g' := fun i i0 i1 ht e0 => by
    obtain ⟨g', k1, k2, k3, k4, k5⟩ := scan_ok' hM u1 e0 ht
    exact ⟨g', k1, ⟨hM.fr k2, ⟨k3, k4, k5⟩, ⟨by unfold Res0; rw [k2.row 199 (fun b => by unfold nxC; simp)]; exact hR.1, by rw [k2 192 16 (by decide)]; exact hR.2⟩, i0, i1⟩, k2⟩
  have pos : ∀ d : Nat, (d : Int) < n → 0 ≤ E d := by
    intro d
    induction d with
    | zero =>
      intro hd
      obtain ⟨q, ⟨s1, -⟩, ht⟩ := c2 0 (Int.le_refl _) hd
      have s1' : 0 ≤ q := s1
      have he0 : E ((0 : Nat) : Int) = E 0 := rfl
      rw [he0]
      rcases ht with ⟨_, _, _, _, _, e⟩ | ⟨_, ⟨e0, _, _, _, e⟩ | ⟨_, _, _, _, _, e⟩ | ⟨_, _, m, _, e, _⟩⟩ <;> omega
    | succ d ih =>
      intro hd
      have hd' : (d : Int) + 1 < n := hd
      have := ih (by omega)
      have ecast : ((d + 1 : Nat) : Int) = (d : Int) + 1 := rfl
      obtain ⟨q, ⟨s1, -⟩, ht⟩ := c2 ((d : Int) + 1) (by omega) hd'
      rw [if_neg (by omega), show (d : Int) + 1 - 1 = d by omega] at s1
      rw [ecast]
      rcases ht with ⟨_, _, _, _, _, e⟩ | ⟨_, ⟨e0, _, _, _, e⟩ | ⟨_, _, _, _, _, e⟩ | ⟨_, _, m, _, e, _⟩⟩ <;> omega
  have e0 : 0 ≤ E j := by
    have := pos j.toNat (by omega)
    rwa [show ((j.toNat : Nat) : Int) = j by omega] at this
  unfold nx
  by_cases z : j + 1 < n
  · rw [if_pos z]
    have ht := c2 (j + 1) (by omega) z
    rw [if_neg (by omega), show j + 1 - 1 = j by omega] at ht
    exact fin (j + 1) (by omega) z ht e0
  · rw [if_neg z]
    have ej : n - 1 = j := by omega
    rw [ej] at c4
    have ht := c2 j j0 j1
    refine fin j j0 j1 ?_ e0
    obtain ⟨q, ⟨s1, s2, s3, s4⟩, ht⟩ := ht
    rcases ht with ⟨h1, h2, h3, h4, h5, h6⟩ | ⟨nc, ⟨h1, h2, h3, h4, h5⟩ | ⟨h1, h2, h3, -⟩ | ⟨h1, h2, m, -, -, -, -, -, hr, -⟩⟩
    · exact ⟨E j, ⟨Int.le_refl _, by omega, fun i a b => by omega, fun w => by rw [h6]; exact s4 (by omega)⟩, Or.inl ⟨h1, by omega, h3, h4, h5, rfl⟩⟩
    · exact ⟨E j, ⟨Int.le_refl _, by omega, fun i a b => by omega, fun w => by omega⟩, Or.inr ⟨by omega, Or.inl ⟨h5, h2, h3, h4, h5⟩⟩⟩
    · exfalso
      rw [h3] at c4
      split at c4
      · rename_i w; omega
      · omega
    · exfalso
      unfold RunT at hr
      by_cases y : cL B q m = m ∧ m ≤ 7
      · rw [if_pos y] at hr
        rcases kwF_or (w := r32 (lsB B q m)) with ⟨i, i0, i1, w, -⟩ | ⟨w, -⟩ <;> omega
      · rw [if_neg y] at hr
        by_cases y2 : cL B q m = 0 ∧ m ≤ 3
        · rw [if_pos y2] at hr; omega
        · rw [if_neg y2] at hr; omega
theorem failC {j k : Int} {c : hH} (h : SC n K A V j c) : ∃ c', fX9_fail c 1 k = some (0, c') ∧ FRc k (A j) c' ∧ Fr tkF c c' := by
  unfold fX9_fail
  simp only [pput, Option.bind_some]
  refine ⟨_, rfl, ⟨?_, ?_⟩, (Fr.up (by decide)).tr (Fr.up (by decide))⟩
  · rw [hup_ne (by decide), hup_at]
  · rw [hup_at, hup_ne (by decide)]; exact h.2.2.1.2.2.1
theorem badM {j k : Int} {g : hH} (h : SM B L M n K A V E j g) : ∃ g', fX12_bad g 192 k = some (0, g') ∧ FRm k (A j) g' ∧ Fr txF g g' := by
  unfold fX12_bad
  simp only [pput, Option.bind_some]
  refine ⟨_, rfl, ⟨?_, ?_⟩, (Fr.up (by decide)).tr (Fr.up (by decide))⟩
  · rw [hup_ne (by decide), hup_at]
  · rw [hup_at, hup_ne (by decide)]; exact h.2.1.2.1
theorem nx_tx {a b : Int} (z : nxC a b = true) : txF a b = true := by unfold txF; rw [z]; rfl
/-! tests of the token -/
theorem SC.k {j : Int} {c : hH} (h : SC n K A V j c) : c 1 5 = K j := h.2.2.1.2.1
theorem SC.v {j : Int} {c : hH} (h : SC n K A V j c) : c 1 7 = V j := h.2.2.1.2.2.2
theorem res_ne : ∀ i j : Fin 29, rs32 (i.1 : Int) = rs32 (j.1 : Int) → i = j := by decide +kernel
theorem rs_inj {i j : Int} (i0 : 0 ≤ i) (i1 : i < 29) (j0 : 0 ≤ j) (j1 : j < 29) (e : rs256 i = rs256 j) : i = j := by
  have e1 : rs32 i = rs32 j := ((res_wr i0 i1).inj (res_wr j0 j1)).mpr e
  have := res_ne ⟨i.toNat, by omega⟩ ⟨j.toNat, by omega⟩
  dsimp only at this
  rw [show ((i.toNat : Nat) : Int) = i by omega, show ((j.toNat : Nat) : Int) = j by omega] at this
  have := this e1
  have := congrArg Fin.val this
  dsimp only at this
  omega
theorem isWordM {j i : Int} {g : hH} (h : SM B L M n K A V E j g) (i0 : 0 ≤ i) (i1 : i < 29) : fX12_isWord g 192 (rs256 i) = some (if K j = 128 + i then 1 else 0) := by
  obtain ⟨-, ⟨-, -, ht⟩, -⟩ := h
  unfold fX12_isWord
  rcases ht with ⟨a, b⟩ | ⟨a, b⟩ | ⟨a, b, -⟩ | ⟨a, b, c, d⟩ | ⟨i', ⟨p0, p1⟩, a, b, c, d⟩ | ⟨a, b, -⟩
  · rw [b, if_neg (by decide), if_neg (by omega)]
  · rw [b, if_neg (by decide), if_neg (by omega)]
  · rw [b, if_neg (by decide), if_neg (by omega)]
  · rw [b, if_pos rfl, if_neg (fun z => d i i0 i1 ((c.inj (res_wr i0 i1)).mpr (lcm0.mp z))), if_neg (by omega)]
  · rw [c, if_pos rfl, d]
    by_cases e : i = i'
    · rw [e, if_pos (lcm0.mpr rfl), if_pos (by omega)]
    · rw [if_neg (fun z => e (rs_inj p0 p1 i0 i1 (lcm0.mp z)).symm), if_neg (by omega)]
  · rw [b, if_neg (by decide)]
    unfold sgn at a
    rw [if_neg (by omega)]
theorem isNameM {j : Int} {g : hH} (h : SM B L M n K A V E j g) : fX12_isName g 192 = some (if K j = 4 then 1 else 0) := by
  obtain ⟨⟨hL, -⟩, ⟨-, -, ht⟩, hR, -⟩ := h
  have zero : ∀ (l : Int), 0 ≤ l → l ≤ 29 → lpO (fX12_isName_s16 g 192) (0, l) = some 0 := fun l l0 l1 => by
    obtain ⟨r, r1, r2⟩ := lpO_invG (f := fX12_isName_s16 g 192) (fun i (b : Int) => (b, i)) 29 (fun i b => b = 0) (fun r => r = 0) (fun i b i0 i1 hb => by
      unfold fX12_isName_s16
      dsimp only
      rw [if_pos i1, hb, if_pos rfl, w1 (by omega) (by omega)]
      exact Or.inl ⟨0, rfl, rfl⟩) (fun b hb => by
      unfold fX12_isName_s16
      dsimp only
      rw [if_neg (by decide)]
      exact ⟨b, rfl, hb⟩) (i := l) (a := 0) l0 l1 rfl
    rw [r1, r2]
  have one : g 192 12 = 1 → (∀ i, 0 ≤ i → i < 29 → g 192 18 ≠ rs256 i) → lpO (fX12_isName_s16 g 192) (1, 0) = some 1 := fun _ hd => by
    obtain ⟨r, r1, r2⟩ := lpO_invG (f := fX12_isName_s16 g 192) (fun i (b : Int) => (b, i)) 29 (fun i b => b = 1) (fun r => r = 1) (fun i b i0 i1 hb => by
      unfold fX12_isName_s16
      dsimp only
      rw [if_pos i1, hb, if_neg (by decide), ly_192_11 hL, aget_in i0 (by rw [ll_199 hL]; exact i1), hR.1 i i0 i1]
      simp only [Option.bind_some]
      rw [if_neg (fun z => hd i i0 i1 (lcm0.mp z)), w1 (by omega) (by omega)]
      exact Or.inl ⟨1, rfl, rfl⟩) (fun b hb => by
      unfold fX12_isName_s16
      dsimp only
      rw [if_neg (by decide)]
      exact ⟨b, rfl, hb⟩) (i := 0) (a := 1) (Int.le_refl _) (by decide) rfl
    rw [r1, r2]
  have told : ∀ i', 0 ≤ i' → i' < 29 → g 192 18 = rs256 i' → lpO (fX12_isName_s16 g 192) (1, 0) = some 0 := fun i' p0 p1 hd => by
    obtain ⟨r, r1, r2⟩ := lpO_invG (f := fX12_isName_s16 g 192) (fun i (b : Int) => (b, i)) 29 (fun i b => b = if i ≤ i' then 1 else 0) (fun r => r = 0) (fun i b i0 i1 hb => by
      unfold fX12_isName_s16
      dsimp only
      rw [if_pos i1, hb, w1 (by omega) (by omega)]
      by_cases z : i ≤ i'
      · rw [if_pos z, if_neg (by decide), ly_192_11 hL, aget_in i0 (by rw [ll_199 hL]; exact i1), hR.1 i i0 i1, hd]
        simp only [Option.bind_some]
        by_cases e : i' = i
        · rw [e, if_pos (lcm0.mpr rfl)]
          exact Or.inl ⟨0, rfl, by rw [if_neg (by omega)]⟩
        · rw [if_neg (fun z => e (rs_inj p0 p1 i0 i1 (lcm0.mp z)))]
          exact Or.inl ⟨1, rfl, by rw [if_pos (by omega)]⟩
      · rw [if_neg z, if_pos rfl]
        exact Or.inl ⟨0, rfl, by rw [if_neg (by omega)]⟩) (fun b hb => by
      unfold fX12_isName_s16
      dsimp only
      rw [if_neg (by decide)]
      exact ⟨b, rfl, by rw [hb, if_neg (by omega)]⟩) (i := 0) (a := 1) (Int.le_refl _) (by decide) (by rw [if_pos p0])
    rw [r1, r2]
  unfold fX12_isName fX12_isName_b13
  rcases ht with ⟨a, b⟩ | ⟨a, b⟩ | ⟨a, b, -⟩ | ⟨a, b, c, d⟩ | ⟨i', ⟨p0, p1⟩, a, b, c, d⟩ | ⟨a, b, -⟩
  · rw [b, if_neg (by decide), zero 0 (by decide) (by decide), if_neg (by omega)]
  · rw [b, if_neg (by decide), zero 0 (by decide) (by decide), if_neg (by omega)]
  · rw [b, if_neg (by decide), zero 0 (by decide) (by decide), if_neg (by omega)]
  · rw [b, if_pos rfl, one b (fun i i0 i1 z => d i i0 i1 ((c.inj (res_wr i0 i1)).mpr z)), if_pos a]
  · rw [c, if_pos rfl, told i' p0 p1 d, if_neg (by omega)]
  · rw [b, if_neg (by decide), zero 0 (by decide) (by decide)]
    unfold sgn at a
    rw [if_neg (by omega)]
theorem isSignM {j s : Int} {g : hH} (h : SM B L M n K A V E j g) (hs : sgn s) : fX12_isSign g 192 s = some (if K j = s then 1 else 0) := by
  obtain ⟨-, ⟨-, -, ht⟩, -⟩ := h
  unfold sgn at hs
  unfold fX12_isSign
  rcases ht with ⟨a, b⟩ | ⟨a, b⟩ | ⟨a, b, -⟩ | ⟨a, b, c, d⟩ | ⟨i', ⟨p0, p1⟩, a, b, c, d⟩ | ⟨a, b, c⟩
  · rw [b, if_neg (by decide), if_neg (by omega)]
  · rw [b, if_neg (by decide), if_neg (by omega)]
  · rw [b, if_neg (by decide), if_neg (by omega)]
  · rw [b, if_neg (by decide), if_neg (by omega)]
  · rw [c, if_neg (by decide), if_neg (by omega)]
  · rw [b, if_pos rfl, c]
    split <;> rfl
theorem SM.tok {j : Int} {g : hH} (h : SM B L M n K A V E j g) : (g 192 12 = 0 ↔ K j = 0) ∧ (g 192 12 = 2 ↔ K j = 3) ∧ (K j = 3 → g 192 15 = V j) ∧ (g 192 12 = 3 ↔ sgn (K j)) ∧ (sgn (K j) → g 192 15 = K j) ∧ (g 192 12 = 1 ↔ K j = 4 ∨ (128 ≤ K j ∧ K j < 157)) ∧ (K j = 4 → WR (V j) (g 192 18)) ∧ (0 ≤ K j ∧ K j < 157) := by
  obtain ⟨-, ⟨-, -, ht⟩, -⟩ := h
  unfold TRm at ht
  unfold sgn at ht ⊢
  rcases ht with ⟨a, b⟩ | ⟨a, b⟩ | ⟨a, b, e⟩ | ⟨a, b, c, d⟩ | ⟨i', ⟨p0, p1⟩, a, b, c, d⟩ | ⟨a, b, c⟩
  · refine ⟨by omega, by omega, by omega, by omega, by omega, by omega, by omega, by omega⟩
  · refine ⟨by omega, by omega, by omega, by omega, by omega, by omega, by omega, by omega⟩
  · refine ⟨by omega, by omega, fun _ => e, by omega, by omega, by omega, by omega, by omega⟩
  · refine ⟨by omega, by omega, by omega, by omega, by omega, by omega, fun _ => c, by omega⟩
  · refine ⟨by omega, by omega, by omega, by omega, by omega, by omega, by omega, by omega⟩
  · refine ⟨by omega, by omega, by omega, by omega, fun _ => c, by omega, by omega, by omega⟩
/-! names -/
def NamR (c g : hH) (p o : Int) (s : Int → Int) : Prop := (∀ t, 0 ≤ t → t < s 0 → WR (c (p + 1) t) (g 198 (o + t))) ∧ ∀ t k, 0 ≤ t → t < s 0 → 0 ≤ k → k < s (4 + t) → WR (c (p + 3) (4 * t + k)) (g 198 (o + 4 + 4 * t + k))
def DR (c g : hH) (p o : Int) (s : Int → Int) : Prop := SchemaAt c p ∧ SchR c p s ∧ SOk s ∧ NamR c g p o s ∧ (o = 0 ∨ o = 20)
theorem seek_ok {g : hH} (hL : Lay g) {from_ m : Int} (f0 : 0 ≤ from_) (fm : from_ + m ≤ 40) (m0 : 0 ≤ m) : ∃ r, fX12_seek g 192 from_ m = some r ∧ ((0 ≤ r ∧ r < m ∧ g 198 (from_ + r) = g 192 18 ∧ ∀ k, 0 ≤ k → k < r → g 198 (from_ + k) ≠ g 192 18) ∨ (r = -1 ∧ ∀ k, 0 ≤ k → k < m → g 198 (from_ + k) ≠ g 192 18)) := by
  unfold fX12_seek
  rcases lpO_find (f := fX12_seek_s2 g 192 from_ m) (fun k => k) m (fun k => g 198 (from_ + k) = g 192 18) (fun k => k) (-1) (fun k k0 k1 => by
    unfold fX12_seek_s2
    rw [if_pos k1, w32_id (x := from_ + k) (by omega) (by omega), ly_192_10 hL, aget_in (by omega) (by rw [ll_198 hL]; omega)]
    simp only [Option.bind_some]
    rw [w1 (by omega) (by omega)]
    exact ⟨fun z => by rw [if_pos (lcm0.mpr z)], fun z => by rw [if_neg (fun y => z (lcm0.mp y))]⟩) (by
    unfold fX12_seek_s2
    rw [if_neg (Int.lt_irrefl _)]) (i := 0) (Int.le_refl _) m0 with ⟨k, k0, k1, k2, k3, k4⟩ | ⟨k1, k2⟩
  · exact ⟨k, k4, Or.inl ⟨k0, k1, k2, fun i a b => k3 i a b⟩⟩
  · exact ⟨-1, k2, Or.inr ⟨rfl, fun i a b => k1 i a b⟩⟩
theorem table_find {c g : hH} {p o j : Int} {s : Int → Int} (hD : DR c g p o s) (hM : SM B L M n K A V E j g) (hk : K j = 4) : ∃ r, fX4_tableNamed c p (V j) = some r ∧ fX12_seek g 192 o (s 0) = some r ∧ (r = -1 ∨ (0 ≤ r ∧ r < s 0)) := by
  obtain ⟨hA, hR, hs, ⟨n1, -⟩, ho⟩ := hD
  have hW := (SM.tok hM).2.2.2.2.2.2.1 hk
  have h0 := hs.1
  obtain ⟨r, r1, r2⟩ := seek_ok hM.1.1 (from_ := o) (m := s 0) (by omega) (by omega) h0.1
  have nm : ∀ t, 0 ≤ t → t < s 0 → fX4_name c p t = some (c (p + 1) t) := fun t t0 t1 => by
    unfold fX4_name
    rw [if_neg (by omega), hA.1, if_pos (by rw [hA.2.2.2.2.2.2.2.2.1]; omega), aget_in t0 (by rw [hA.2.2.2.2.2.2.2.2.1]; omega)]
    rfl
  refine ⟨r, ?_, r1, by omega⟩
  unfold fX4_tableNamed
  rcases lpO_find (f := fX4_tableNamed_s2 c p (V j)) (fun k => k) (s 0) (fun k => c (p + 1) k = V j) (fun k => k) (-1) (fun k k0 k1 => by
    unfold fX4_tableNamed_s2
    rw [hR.1.1, if_pos k1, nm k k0 k1]
    simp only [Option.bind_some]
    rw [w1 (by omega) (by omega)]
    exact ⟨fun z => by rw [if_pos (lcm0.mpr z)], fun z => by rw [if_neg (fun y => z (lcm0.mp y))]⟩) (by
    unfold fX4_tableNamed_s2
    rw [hR.1.1, if_neg (Int.lt_irrefl _)]) (i := 0) (Int.le_refl _) h0.1 with ⟨k, k0, k1, k2, k3, k4⟩ | ⟨k1, k2⟩
  · rw [k4]
    rcases r2 with ⟨a, b, e, f⟩ | ⟨a, f⟩
    · have e1 := ((n1 k k0 k1).inj hW).mp k2
      have e2 := ((n1 r a b).inj hW).mpr e
      rcases Int.lt_trichotomy k r with z | z | z
      · exact absurd e1 (f k k0 z)
      · rw [z]
      · exact absurd e2 (k3 r a z)
    · exact absurd (((n1 k k0 k1).inj hW).mp k2) (f k k0 k1)
  · rw [k2]
    rcases r2 with ⟨a, b, e, f⟩ | ⟨a, f⟩
    · exact absurd (((n1 r a b).inj hW).mpr e) (k1 r a b)
    · rw [a]
theorem col_find {c g : hH} {p o j t : Int} {s : Int → Int} (hD : DR c g p o s) (hM : SM B L M n K A V E j g) (hk : K j = 4) (t0 : 0 ≤ t) (t1 : t < s 0) : ∃ r, fX4_colNamed c p t (V j) = some r ∧ fX12_seek g 192 (o + 4 + 4 * t) (s (4 + t)) = some r ∧ (r = -1 ∨ (0 ≤ r ∧ r < s (4 + t))) := by
  obtain ⟨hA, hR, hs, ⟨-, n2⟩, ho⟩ := hD
  have hW := (SM.tok hM).2.2.2.2.2.2.1 hk
  have h0 := hs.1
  have hw := hs.2.2.2.2.1 t t0 t1
  obtain ⟨r, r1, r2⟩ := seek_ok hM.1.1 (from_ := o + 4 + 4 * t) (m := s (4 + t)) (by omega) (by omega) (by omega)
  refine ⟨r, ?_, r1, by omega⟩
  have l2 := hA.2.2.2.2.2.2.2.2.2.1
  have l3 := hA.2.2.2.2.2.2.2.2.2.2.1
  unfold fX4_colNamed fX4_colNamed_b23
  rw [if_neg (by omega), hA.2.1, if_pos (by rw [l2]; omega), aget_in t0 (by rw [l2]; omega), hR.2.1 t t0 t1]
  simp only [Option.bind_some]
  rcases lpO_find (f := fX4_colNamed_s28 c p t (V j) (s (4 + t))) (fun k => k) (s (4 + t)) (fun k => c (p + 3) (4 * t + k) = V j) (fun k => k) (-1) (fun k k0 k1 => by
    unfold fX4_colNamed_s28
    rw [if_pos k1, show w32 (w32 (t * 4) + k) = 4 * t + k by rw [w32_id (x := t * 4) (by omega) (by omega), w32_id (by omega) (by omega)]; omega, if_neg (by omega), hA.2.2.1, if_pos (by rw [l3]; omega), aget_in (by omega) (by rw [l3]; omega)]
    simp only [Option.bind_some]
    rw [w1 (by omega) (by omega)]
    exact ⟨fun z => by rw [if_pos (lcm0.mpr z)], fun z => by rw [if_neg (fun y => z (lcm0.mp y))]⟩) (by
    unfold fX4_colNamed_s28
    rw [if_neg (Int.lt_irrefl _)]) (i := 0) (Int.le_refl _) (by omega) with ⟨k, k0, k1, k2, k3, k4⟩ | ⟨k1, k2⟩
  · rw [k4]
    rcases r2 with ⟨a, b, e, f⟩ | ⟨a, f⟩
    · have e1 := ((n2 t k t0 t1 k0 k1).inj hW).mp k2
      have e2 := ((n2 t r t0 t1 a b).inj hW).mpr e
      rcases Int.lt_trichotomy k r with z | z | z
      · exact absurd e1 (f k k0 z)
      · rw [z]
      · exact absurd e2 (k3 r a z)
    · exact absurd (((n2 t k t0 t1 k0 k1).inj hW).mp k2) (f k k0 k1)
  · rw [k2]
    rcases r2 with ⟨a, b, e, f⟩ | ⟨a, f⟩
    · exact absurd (((n2 t r t0 t1 a b).inj hW).mpr e) (k1 r a b)
    · rw [a]
/-! both fail, or both go on -/
def Fl (c g c' g' : hH) : Prop := (∃ k a, FRc k a c' ∧ FRm k a g' ∧ 1 ≤ k) ∧ Fr tkF c c' ∧ Fr txF g g'
theorem fail2 {j k : Int} {c g : hH} (hc : SC n K A V j c) (hg : SM B L M n K A V E j g) (hk : 1 ≤ k) : ∃ c' g', fX9_fail c 1 k = some (0, c') ∧ fX12_bad g 192 k = some (0, g') ∧ Fl c g c' g' := by
  obtain ⟨c', c1, c2, c3⟩ := failC (k := k) hc
  obtain ⟨g', g1, g2, g3⟩ := badM (k := k) hg
  exact ⟨c', g', c1, g1, ⟨k, A j, c2, g2, hk⟩, c3, g3⟩
theorem take2 {j i : Int} {c g : hH} (hC : Chain B L M n K A V E) (hc : SC n K A V j c) (hg : SM B L M n K A V E j g) (hs : sgn i) : ∃ b c' g', fX9_take c 1 i = some (b, c') ∧ fX12_sign g 192 i = some (b, g') ∧ ((b = 0 ∧ Fl c g c' g') ∨ (b = 1 ∧ K j = i ∧ SC n K A V (nx n j) c' ∧ SM B L M n K A V E (nx n j) g' ∧ Fr tkF c c' ∧ Fr txF g g' ∧ c' 1 8 = c 1 8)) := by
  unfold fX9_take fX12_sign
  rw [hc.k, isSignM hg hs]
  simp only [Option.bind_some]
  by_cases z : K j = i
  · rw [if_pos z, if_pos z, if_neg (by decide)]
    obtain ⟨c', c1, c2, c3, c4, -⟩ := stepC hC hc
    obtain ⟨g', g1, g2, g3⟩ := nextM hC hg
    rw [c1, g1]
    exact ⟨1, c', g', rfl, rfl, Or.inr ⟨rfl, z, c2, g2, c3, g3.mono (fun a b z => nx_tx z), c4⟩⟩
  · rw [if_neg z, if_neg z, if_pos rfl]
    obtain ⟨c', g', c1, g1, h⟩ := fail2 (k := 1) hc hg (by decide)
    rw [c1, g1]
    exact ⟨0, c', g', rfl, rfl, Or.inl ⟨rfl, h⟩⟩
/-- where a column or a table is told: the place, or a fault, without a step -/
theorem looks_m {j from_ m : Int} {g : hH} (hg : SM B L M n K A V E j g) (r : Int) (hr : K j = 4 → fX12_seek g 192 from_ m = some r ∧ (r = -1 ∨ 0 ≤ r)) : ∃ b g', fX12_looksAt g 192 from_ m = some (b, g') ∧ Fr txF g g' ∧ ((K j ≠ 4 ∧ b = 0 ∧ FRm 1 (A j) g') ∨ (K j = 4 ∧ r = -1 ∧ b = 0 ∧ FRm 3 (A j) g') ∨ (K j = 4 ∧ 0 ≤ r ∧ b = 1 ∧ g' 192 19 = r ∧ SM B L M n K A V E j g')) := by
  unfold fX12_looksAt fX12_looksAt_b38
  rw [isNameM hg]
  simp only [Option.bind_some]
  by_cases z : K j = 4
  · obtain ⟨h1, h2⟩ := hr z
    rw [if_pos z, if_neg (by decide), h1]
    simp only [Option.bind_some, pput]
    generalize hq : hup g 192 19 r = q
    have fq : Fr txF g q := by rw [← hq]; exact Fr.up (by decide)
    have Lq := fq.lay hg.1.1 txF_lay1 txF_lay2
    have Sq : SM B L M n K A V E j q := hg.per Lq (by rw [← hq, hup_off (by decide)]) (by rw [← hq, hup_off (by decide)]) (fun b hb => by rw [← hq, hup_ne (by omega)])
    have q19 : q 192 19 = r := by rw [← hq, hup_at]
    rw [q19]
    by_cases y : r < 0
    · obtain ⟨g', g1, g2, g3⟩ := badM (k := 3) Sq
      rw [if_pos y, g1]
      simp only [Option.bind_some, if_true]
      exact ⟨0, g', rfl, fq.tr g3, Or.inr (Or.inl ⟨z, by omega, rfl, g2⟩)⟩
    · rw [if_neg y]
      exact ⟨1, q, rfl, fq, Or.inr (Or.inr ⟨z, by omega, rfl, q19, Sq⟩)⟩
  · rw [if_neg z, if_pos rfl]
    obtain ⟨g', g1, g2, g3⟩ := badM (k := 1) hg
    rw [g1]
    exact ⟨0, g', rfl, g3, Or.inl ⟨z, rfl, g2⟩⟩
theorem colHere_c {j p t u : Int} {c : hH} (hc : SC n K A V j c) (r : Int) (hr : K j = 4 → fX4_colNamed c p t (V j) = some r ∧ (r = -1 ∨ 0 ≤ r)) (hu : -1 ≤ u) : ∃ x c', fX9_colHere c 1 p t u = some (x, c') ∧ Fr tkF c c' ∧ ((K j ≠ 4 ∧ x = -1 ∧ FRc 1 (A j) c') ∨ (K j = 4 ∧ (r = -1 ∨ r = u) ∧ x = -1 ∧ FRc 3 (A j) c') ∨ (K j = 4 ∧ 0 ≤ r ∧ r ≠ u ∧ x = r ∧ c' = c)) := by
  unfold fX9_colHere fX9_colHere_b39
  rw [hc.k, hc.v]
  by_cases z : K j = 4
  · obtain ⟨h1, h2⟩ := hr z
    rw [if_pos z, h1]
    simp only [Option.bind_some]
    obtain ⟨c', c1, c2, c3⟩ := failC (k := 3) hc
    by_cases y : r = -1
    · rw [if_pos y, c1]
      exact ⟨-1, c', rfl, c3, Or.inr (Or.inl ⟨z, Or.inl y, rfl, c2⟩)⟩
    · rw [if_neg y]
      by_cases w : r = u
      · rw [if_pos w, c1]
        exact ⟨-1, c', rfl, c3, Or.inr (Or.inl ⟨z, Or.inr w, rfl, c2⟩)⟩
      · rw [if_neg w]
        exact ⟨r, c, rfl, Fr.rf, Or.inr (Or.inr ⟨z, by omega, w, rfl, rfl⟩)⟩
  · rw [if_neg z]
    obtain ⟨c', c1, c2, c3⟩ := failC (k := 1) hc
    rw [c1]
    exact ⟨-1, c', rfl, c3, Or.inl ⟨z, rfl, c2⟩⟩
end SIM
