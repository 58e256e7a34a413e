/-! THE CALLS image AND restore -/
def im (h : hH) (k : Int) : Int → Int := fun i => h 221 (1420 * k + i)
/-- image k, the class's object p -/
def ImgR (h : hH) (p k : Int) : Prop := (h p 0 = 0 ∧ h 223 k = 0) ∨ (h p 0 = 1 ∧ h 223 k = 1 ∧ SchR h (p + 1) (im h k) ∧ SOk (im h k) ∧ StH h (p + 10) (im h k) ∧ StOk (im h k) ∧ SenR h (p + 19) (im h k) ∧ (∀ t, 0 ≤ t → t < im h k 0 → WR (h (p + 1 + 1) t) (h 222 (20 * k + t))) ∧ ∀ t x, 0 ≤ t → t < im h k 0 → 0 ≤ x → x < im h k (4 + t) → WR (h (p + 1 + 3) (4 * t + x)) (h 222 (20 * k + (4 + 4 * t + x))))
def ImgI (h : hH) : Prop := ImgR h 150 0 ∧ ImgR h 171 1
def ImAt (h : hH) (p : Int) : Prop := h p 1 = p + 1 ∧ h p 2 = p + 10 ∧ h p 3 = p + 19 ∧ SchemaAt h (p + 1) ∧ StAt h (p + 10) ∧ h (p + 19) 3 = p + 19 + 1 ∧ h (p + 19 + 1) (-1) = 120
theorem imAt_0 {h : hH} (hL : Lay h) : ImAt h 150 := ⟨ly_150_1 hL, ly_150_2 hL, ly_150_3 hL, ⟨ly_151_4 hL, ly_151_5 hL, ly_151_6 hL, ly_151_7 hL, ly_151_8 hL, ly_151_9 hL, ly_151_10 hL, ly_151_11 hL, ll_152 hL, ll_153 hL, ll_154 hL, ll_155 hL, ll_156 hL, ll_157 hL, ll_158 hL, ll_159 hL⟩, stAt_160 hL, ly_169_3 hL, ll_170 hL⟩
theorem imAt_1 {h : hH} (hL : Lay h) : ImAt h 171 := ⟨ly_171_1 hL, ly_171_2 hL, ly_171_3 hL, ⟨ly_172_4 hL, ly_172_5 hL, ly_172_6 hL, ly_172_7 hL, ly_172_8 hL, ly_172_9 hL, ly_172_10 hL, ly_172_11 hL, ll_173 hL, ll_174 hL, ll_175 hL, ll_176 hL, ll_177 hL, ll_178 hL, ll_179 hL, ll_180 hL⟩, stAt_181 hL, ly_190_3 hL, ll_191 hL⟩
def KP (k p : Int) : Prop := (k = 0 ∧ p = 150) ∨ (k = 1 ∧ p = 171)
theorem KP.at {k p : Int} {h : hH} (hk : KP k p) (hL : Lay h) : ImAt h p := by
  rcases hk with ⟨rfl, rfl⟩ | ⟨rfl, rfl⟩
  · exact imAt_0 hL
  · exact imAt_1 hL
/-- an image stays -/
theorem ImgR.of {h h' : hH} {p k : Int} (hI : ImgR h p k) (e : ∀ a, p ≤ a → a < p + 21 → h' a = h a) (e1 : ∀ i, 0 ≤ i → i < 1420 → h' 221 (1420 * k + i) = h 221 (1420 * k + i)) (e2 : ∀ i, 0 ≤ i → i < 20 → h' 222 (20 * k + i) = h 222 (20 * k + i)) (e3 : h' 223 k = h 223 k) : ImgR h' p k := by
  have e0 : h' p = h p := e p (by omega) (by omega)
  have ei : ∀ i, 0 ≤ i → i < 1420 → im h' k i = im h k i := e1
  rcases hI with ⟨a1, a2⟩ | ⟨a1, a2, a3, a4, a5, a6, a7, a8, a9⟩
  · exact Or.inl ⟨by rw [e0]; exact a1, e3.trans a2⟩
  · have t0 := a4.1
    refine Or.inr ⟨by rw [e0]; exact a1, e3.trans a2, SchR.cong (fun i i0 i1 => ei i i0 (by omega)) a4 (SchR.rows (fun x x0 x1 => e _ (by omega) (by omega)) a3), a4.cong (fun i i0 i1 => ei i i0 (by omega)), ?_, a6.cong (fun i i0 i1 => (ei i i0 (by omega)).symm) t0.2, a7.cp (by rw [e _ (by omega) (by omega)]) (by rw [e _ (by omega) (by omega)]) (fun j _ _ => by rw [e _ (by omega) (by omega)]) (fun i i0 i1 => ei i (by omega) (by omega)), fun t q0 q1 => ?_, fun t x q0 q1 x0 x1 => ?_⟩
    · exact (StH.sameL (fun a b0 b1 => e a (by omega) (by omega)) a5).cong (fun i i0 i1 => (ei i i0 (by omega)).symm)
    · rw [ei 0 (by decide) (by decide)] at q1
      rw [e _ (by omega) (by omega), e2 t q0 (by omega)]
      exact a8 t q0 q1
    · rw [ei 0 (by decide) (by decide)] at q1
      rw [ei (4 + t) (by omega) (by omega)] at x1
      have bw := a4.2.2.2.2.1 t q0 q1
      rw [e _ (by omega) (by omega), e2 _ (by omega) (by omega)]
      exact a9 t x q0 q1 x0 x1
theorem ImgI.of {h h' : hH} (hI : ImgI h) (e : ∀ a, 150 ≤ a → a < 192 → h' a = h a) (e1 : h' 221 = h 221) (e2 : h' 222 = h 222) (e3 : h' 223 = h 223) : ImgI h' :=
  ⟨hI.1.of (fun a a0 a1 => e a (by omega) (by omega)) (fun i _ _ => by rw [e1]) (fun i _ _ => by rw [e2]) (by rw [e3]), hI.2.of (fun a a0 a1 => e a (by omega) (by omega)) (fun i _ _ => by rw [e1]) (fun i _ _ => by rw [e2]) (by rw [e3])⟩
def iqC (p a b : Int) : Bool := (a == p && b == 0) || schC (p + 1) a b || stC (p + 10) a b || snF (p + 19) a b
def imM (a b : Int) : Bool := (a == 192 && b == 0) || ((a == 221 || a == 222 || a == 223) && decide (0 ≤ b))
def imA (a b : Int) : Bool := iqC 150 a b || iqC 171 a b || imM a b
theorem imA_1 : refT.all (fun q => !(imA q.1 q.2.1)) = true := by decide +kernel
theorem imA_2 : lenT.all (fun q => !(imA q.1 (-1))) = true := by decide +kernel
theorem iq_A {k p a b : Int} (hk : KP k p) (z : iqC p a b = true) : imA a b = true := by
  unfold imA
  rcases hk with ⟨rfl, rfl⟩ | ⟨rfl, rfl⟩ <;> rw [z] <;> simp
theorem imM_A {a b : Int} (z : imM a b = true) : imA a b = true := by unfold imA; rw [z]; simp
theorem iqC_off {p a : Int} (ha : a < p ∨ p + 20 < a) : ∀ b, iqC p a b = false := fun b => by unfold iqC schC stC rwC snF; simp; omega
theorem segW_lay {h : hH} {A off n : Int} {src : Int → Int} (hL : Lay h) (hA : A = 221 ∨ A = 222) (h0 : 0 ≤ off) : Lay (seg h A off n src) := by
  have : Fr imA h (seg h A off n src) := seg_fr2 (fun b b0 b1 => imM_A (by unfold imM; rcases hA with rfl | rfl <;> simp <;> omega))
  exact this.lay hL imA_1 imA_2
/-- the model takes the image -/
theorem imgLoop {g x0 : hH} {k : Int} (hL : Lay g) (hk : k = 0 ∨ k = 1) : lpO (fX12_image_s18 x0 192 k) (g, 0) = some (1, hup (seg (seg g 221 (1420 * k) 1420 (g 194)) 222 (20 * k) 20 (g 198)) 223 k 1) := by
  have k0 : 0 ≤ k ∧ k ≤ 1 := by omega
  have L1 : ∀ i, Lay (seg g 221 (1420 * k) i (g 194)) := fun i => segW_lay hL (Or.inl rfl) (by omega)
  have L2 : ∀ i, Lay (seg (seg g 221 (1420 * k) 1420 (g 194)) 222 (20 * k) i (g 198)) := fun i => segW_lay (L1 1420) (Or.inr rfl) (by omega)
  obtain ⟨r, r1, r2⟩ := cp_loop (f := fX12_image_s51 (seg g 221 (1420 * k) 1420 (g 194)) 192 k) (h := seg g 221 (1420 * k) 1420 (g 194)) 222 (20 * k) 20 (g 198) (fun r => r = (1, hup (seg (seg g 221 (1420 * k) 1420 (g 194)) 222 (20 * k) 20 (g 198)) 223 k 1)) (by decide) (fun i h' i0 i1 e => by
    have Lx : Lay h' := by rw [e]; exact L2 i
    unfold fX12_image_s51
    dsimp only
    rw [if_pos i1, ly_192_10 Lx, aget_in i0 (by rw [ll_198 Lx]; omega)]
    simp only [Option.bind_some]
    rw [ly_192_64 Lx, w32_id (x := 20 * k) (by omega) (by omega), w32_id (x := 20 * k + i) (by omega) (by omega), aput_in (by omega) (by rw [ll_222 Lx]; omega), w1 (by omega) (by omega)]
    simp only [Option.bind_some]
    rw [show h' 198 i = g 198 i by rw [e, seg_off (by decide), seg_off (by decide)]]) ⟨_, by
    unfold fX12_image_s51
    dsimp only
    rw [if_neg (by decide), ly_192_65 (L2 20), aput_in k0.1 (by rw [ll_223 (L2 20)]; omega)]
    rfl, rfl⟩
  obtain ⟨s, s1, s2⟩ := cp_loop (f := fX12_image_s18 x0 192 k) (h := g) 221 (1420 * k) 1420 (g 194) (fun s => s = (1, hup (seg (seg g 221 (1420 * k) 1420 (g 194)) 222 (20 * k) 20 (g 198)) 223 k 1)) (by decide) (fun i h' i0 i1 e => by
    have Lx : Lay h' := by rw [e]; exact L1 i
    unfold fX12_image_s18
    dsimp only
    rw [if_pos i1, ly_192_6 Lx, aget_in i0 (by rw [ll_194 Lx]; omega)]
    simp only [Option.bind_some]
    rw [ly_192_63 Lx, w32_id (x := 1420 * k) (by omega) (by omega), w32_id (x := 1420 * k + i) (by omega) (by omega), aput_in (by omega) (by rw [ll_221 Lx]; omega), w1 (by omega) (by omega)]
    simp only [Option.bind_some]
    rw [show h' 194 i = g 194 i by rw [e, seg_off (by decide)]]) ⟨_, by
    unfold fX12_image_s18
    dsimp only
    rw [if_neg (by decide), r1, r2]
    rfl, rfl⟩
  rw [s1, s2]
theorem seg198_lay {h : hH} {n : Int} {src : Int → Int} (hL : Lay h) : Lay (seg h 198 0 n src) := by
  have : Fr (fun a b => a == 198 && decide (0 ≤ b)) h (seg h 198 0 n src) := seg_fr2 (fun b b0 b1 => by simp; omega)
  exact this.lay hL (by decide +kernel) (by decide +kernel)
/-- the model takes the image back -/
theorem restLoop {g x0 : hH} {k : Int} (hL : Lay g) (hk : k = 0 ∨ k = 1) : lpO (fX12_restore_s27 x0 192 k) (g, 0) = some (1, hup (seg (seg g 194 0 1420 (im g k)) 198 0 20 (fun i => g 222 (20 * k + i))) 192 44 0) := by
  have k0 : 0 ≤ k ∧ k ≤ 1 := by omega
  have L1 : ∀ i, Lay (seg g 194 0 i (im g k)) := fun i => lay_seg194 hL (by decide)
  have L2 : ∀ i, Lay (seg (seg g 194 0 1420 (im g k)) 198 0 i (fun i => g 222 (20 * k + i))) := fun i => seg198_lay (L1 1420)
  obtain ⟨r, r1, r2⟩ := cp_loop (f := fX12_restore_s60 (seg g 194 0 1420 (im g k)) 192 k) (h := seg g 194 0 1420 (im g k)) 198 0 20 (fun i => g 222 (20 * k + i)) (fun r => r = (1, hup (seg (seg g 194 0 1420 (im g k)) 198 0 20 (fun i => g 222 (20 * k + i))) 192 44 0)) (by decide) (fun i h' i0 i1 e => by
    have Lx : Lay h' := by rw [e]; exact L2 i
    unfold fX12_restore_s60
    dsimp only
    rw [if_pos i1, ly_192_64 Lx, w32_id (x := 20 * k) (by omega) (by omega), w32_id (x := 20 * k + i) (by omega) (by omega), aget_in (by omega) (by rw [ll_222 Lx]; omega)]
    simp only [Option.bind_some]
    rw [ly_192_10 Lx, aput_in i0 (by rw [ll_198 Lx]; omega), w1 (by omega) (by omega)]
    simp only [Option.bind_some]
    rw [show h' 222 = g 222 by rw [e, seg_off (by decide), seg_off (by decide)], Int.zero_add]) ⟨_, by
    unfold fX12_restore_s60
    dsimp only
    rw [if_neg (by decide)]
    rfl, rfl⟩
  obtain ⟨s, s1, s2⟩ := cp_loop (f := fX12_restore_s27 x0 192 k) (h := g) 194 0 1420 (im g k) (fun s => s = (1, hup (seg (seg g 194 0 1420 (im g k)) 198 0 20 (fun i => g 222 (20 * k + i))) 192 44 0)) (by decide) (fun i h' i0 i1 e => by
    have Lx : Lay h' := by rw [e]; exact L1 i
    unfold fX12_restore_s27
    dsimp only
    rw [if_pos i1, ly_192_63 Lx, w32_id (x := 1420 * k) (by omega) (by omega), w32_id (x := 1420 * k + i) (by omega) (by omega), aget_in (by omega) (by rw [ll_221 Lx]; omega)]
    simp only [Option.bind_some]
    rw [ly_192_6 Lx, aput_in i0 (by rw [ll_194 Lx]; omega), w1 (by omega) (by omega)]
    simp only [Option.bind_some]
    rw [show h' 221 (1420 * k + i) = im g k i by rw [e, seg_off (by decide)]; rfl, Int.zero_add]) ⟨_, by
    unfold fX12_restore_s27
    dsimp only
    rw [if_neg (by decide), r1, r2]
    rfl, rfl⟩
  rw [s1, s2]
